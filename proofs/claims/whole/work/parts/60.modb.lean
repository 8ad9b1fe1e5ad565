/-! THE MODEL: new ones; a run of orders; what if cancelled -/
section MB
variable {g : GG} {d : Nat} {c n : Nat} {m : PM} {Q : Ou → PM → Nat → Nat → Prop} {K E P S L : Nat} {τ : Nat → Nat → Nat → Int32}
theorem mo_addExaminer (hR : Rel E P τ (m.1 9 21 0)) (hI : Iv K E P τ) (hK : K < 2 ^ 31) (hS : m.1 9 20 0 4 = nI S) (hS6 : S ≤ 6) (h1 : E = 4 → Q (.inl (some (pI 0))) (setI m 20 9 0 0 1) c n) (h : E < 4 → ∀ μ μ', SvF S (m.1 9) μ → Fr μ' μ → Rel (E + 1) P (give P (fAddE0 E τ)) (μ' 21 0) → Q (.inl (some (pI (nI E)))) (rset m 9 μ') c n) : Wq g (d + 5) MX5_addExaminer c n 0 [some (pO 20 9 0)] [] m Q := by
  have hE := hI.E4
  have hP := hI.P12
  have e1 := hR.h (k := 1) (by decide)
  rw [hI.hE] at e1
  refine sgX5_addExaminer ?_
  rw [ix_1, e1]
  by_cases q : E = 4
  · subst q
    exact ⟨fun z => absurd rfl z, fun _ => h1 rfl⟩
  · have hE4 : E < 4 := by omega
    have q' : ¬ nI E = 4 := fun z => q (nI_i (by omega) (by decide) (show nI E = nI 4 from z))
    refine ⟨fun _ => sv_f hS hS6 fun μ sv => ⟨rfl, rfl, ?_⟩, fun z => absurd z q'⟩
    have hr := sv.r hR
    dsimp only [cV]
    rw [hr.h (k := 1) (by decide), hI.hE]
    rw [rset_s] at hr
    refine Wq.up (S := Nat → Nat → Nat → Int32) 40 (fun k _ => [some (pO 20 9 0), some (pI (nI E)), some (pI (nI k))]) (fun _ ν => rset m 9 ν) (fun k ν => Fr ν μ ∧ (∀ j, ν 21 0 j = if 9 + 40 * E ≤ j ∧ j < 9 + 40 * E + k then -1 else μ 21 0 j)) (fun ν hL => ?_) (fun k ν hk hL ih => ?_) 0 μ (by omega) ⟨Fr_rfl, fun j => by rw [if_neg (by omega)]⟩
    · obtain ⟨f, a⟩ := hL
      refine sgX5_addExaminer_37 ⟨fun _ => ?_, fun q => absurd (geL (Nat.le_refl 40) (by decide)) q⟩
      refine Wq.up (S := Nat → Nat → Nat → Int32) 7 (fun k _ => [some (pO 20 9 0), some (pI (nI E)), some (pI (nI k))]) (fun _ ν => rset m 9 ν) (fun k ν => Fr ν μ ∧ (∀ j, ν 21 0 j = if 9 + 40 * E ≤ j ∧ j < 9 + 40 * E + 40 then -1 else if 169 + 7 * E ≤ j ∧ j < 169 + 7 * E + k then 0 else μ 21 0 j)) (fun ν hL => ?_) (fun k ν hk hL ih => ?_) 0 ν (by omega) ⟨f, fun j => by rw [a j, if_neg (c := 169 + 7 * E ≤ j ∧ j < 169 + 7 * E + 0) (by omega)]⟩
      · obtain ⟨f, a⟩ := hL
        have a' : ∀ j, ¬ (9 + 40 * E ≤ j ∧ j < 9 + 40 * E + 40) → ¬ (169 + 7 * E ≤ j ∧ j < 169 + 7 * E + 7) → ν 21 0 j = μ 21 0 j := fun j z1 z2 => by rw [a j, if_neg z1, if_neg z2]
        refine sgX5_addExaminer_66 ⟨fun _ => ?_, fun q => absurd (geL (Nat.le_refl 7) (by decide)) q⟩
        rw [rset_s, ix_1, a' 1 (by omega) (by omega), hr.1 1 (by decide), hI.hE, setI_eq, rset_rset, rset_s, show nI E + 1 = nI (E + 1) from nI_add _ 1]
        refine mo_giveOut (E := E + 1) (P := P) (K := K) (τ := fAddE0 E τ) ?_ (fAddE0_Iv hI hE4) hK (fun μ3 f3 r3 => ⟨rfl, rfl, ?_⟩)
        · rw [rset_s, tI_r]
          refine ⟨fun k hk => ?_, fun k hk => ?_, fun i hi hiE => ?_, fun p hp k hk => ?_, fun e he => ?_⟩
          · by_cases k1 : k = 1
            · subst k1
              rw [upd_e]
              simp [fAddE0]
            · rw [upd_o k1, a' k (by omega) (by omega), hr.1 k hk]
              simp [fAddE0, k1]
          · rw [upd_o (by omega), a' _ (by omega) (by omega), hr.2.1 k hk]
            simp [fAddE0]
          · rw [upd_o (by omega)]
            by_cases z : i % 4 = E
            · rw [a, if_pos (by omega)]
              simp [fAddE0, hi, z]
            · rw [a' _ (by omega) (by omega), hr.2.2.1 i hi (by omega)]
              simp [fAddE0, z]
          · rw [upd_o (by omega), a' _ (by omega) (by omega), hr.2.2.2.1 p hp k hk]
            simp [fAddE0]
          · have t6 : fAddE0 E τ 6 = τ 6 := by funext j k; simp [fAddE0]
            have t5 : fAddE0 E τ 5 = τ 5 := by funext j k; simp [fAddE0]
            rw [t6, t5]
            by_cases z : e = E
            · subst z
              obtain ⟨z1, z2, z3⟩ := hI.2.2.2.2.2.2.2.2.2.2.2.2 e (Nat.le_refl e) hE4
              have zz : ∀ k, k < 7 → upd (ν 21 0) 1 (nI (e + 1)) (169 + 7 * e + k) = 0 := fun k hk => by rw [upd_o (by omega), a, if_neg (by omega), if_pos (by omega)]
              refine ⟨?_, ?_, ?_, fun k hk => ?_⟩
              · rw [zz 0 (by decide), sI_0 z3]
              · rw [zz 1 (by decide), z1]
              · rw [zz 2 (by decide), z2]
              · rw [zz (3 + k) (by omega), z3 k hk]
            · obtain ⟨b0, b1, b2, b3⟩ := hr.2.2.2.2 e (by omega)
              refine ⟨?_, ?_, ?_, fun k hk => ?_⟩
              · rw [upd_o (by omega), a' _ (by omega) (by omega), b0]
              · rw [upd_o (by omega), a' _ (by omega) (by omega), b1]
              · rw [upd_o (by omega), a' _ (by omega) (by omega), b2]
              · rw [upd_o (by omega), a' _ (by omega) (by omega), b3 k hk]
        · rw [rset_rset]
          rw [rset_s] at f3
          exact h hE4 μ μ3 sv (Fr_trans f3 (Fr_trans Fr_21 f)) r3
      · obtain ⟨f, a⟩ := hL
        refine sgX5_addExaminer_66 ⟨fun q => absurd q (ngeL hk (by decide)), fun _ => ?_⟩
        have oen : (169 + (7 * nI E)) + nI k = nI (169 + 7 * E + k) := by
          rw [show (169 : Int32) = nI 169 from rfl, show (7 : Int32) = nI 7 from rfl, pk_mul, nI_add, nI_add]
        rw [oen, ixn (by omega), nI_1, setI_eq, rset_rset, rset_s]
        refine ⟨vp_in_nI (by omega) (by decide), ih _ ⟨Fr_trans Fr_21 f, fun j => ?_⟩⟩
        by_cases z : j = 169 + 7 * E + k
        · subst z
          rw [tI_s, if_neg (by omega), if_pos (by omega)]
        · rw [tI_k z, a j]
          by_cases z1 : 9 + 40 * E ≤ j ∧ j < 9 + 40 * E + 40
          · rw [if_pos z1, if_pos z1]
          · rw [if_neg z1, if_neg z1]
            by_cases z2 : 169 + 7 * E ≤ j ∧ j < 169 + 7 * E + k
            · rw [if_pos z2, if_pos (by omega)]
            · rw [if_neg z2, if_neg (by omega)]
    · obtain ⟨f, a⟩ := hL
      refine sgX5_addExaminer_37 ⟨fun q => absurd q (ngeL hk (by decide)), fun _ => ?_⟩
      rw [at_j, ixn (by omega), nI_1, setI_eq, rset_rset, rset_s]
      refine ⟨vp_in_nI (by omega) (by decide), ih _ ⟨Fr_trans Fr_21 f, fun j => ?_⟩⟩
      by_cases z : j = 9 + 40 * E + k
      · subst z
        rw [tI_s, if_pos (by omega)]
      · rw [tI_k z, a j]
        by_cases z1 : 9 + 40 * E ≤ j ∧ j < 9 + 40 * E + k
        · rw [if_pos z1, if_pos (by omega)]
        · rw [if_neg z1, if_neg (by omega)]
theorem mo_addPupil (hR : Rel E P τ (m.1 9 21 0)) (hI : Iv K E P τ) (hS : m.1 9 20 0 4 = nI S) (hS6 : S ≤ 6) (h1 : P = 12 → Q (.inl (some (pI 0))) (setI m 20 9 0 0 1) c n) (h : P < 12 → ∀ μ μ', SvF S (m.1 9) μ → Fr μ' μ → Rel E (P + 1) (fAddP P τ) (μ' 21 0) → Q (.inl (some (pI (nI P)))) (rset m 9 μ') c n) : Wq g (d + 1) MX5_addPupil c n 0 [some (pO 20 9 0)] [] m Q := by
  have hE := hI.E4
  have hP := hI.P12
  have e2 := hR.h (k := 2) (by decide)
  rw [hI.hP] at e2
  refine sgX5_addPupil ?_
  rw [ix_2, e2]
  by_cases q : P = 12
  · subst q
    exact ⟨fun z => absurd rfl z, fun _ => h1 rfl⟩
  · have hP12 : P < 12 := by omega
    have q' : ¬ nI P = 12 := fun z => q (nI_i (by omega) (by decide) (show nI P = nI 12 from z))
    refine ⟨fun _ => sv_f hS hS6 fun μ sv => ⟨rfl, rfl, ?_⟩, fun z => absurd z q'⟩
    have hr := sv.r hR
    dsimp only [cV]
    rw [hr.h (k := 2) (by decide), hI.hP]
    rw [rset_s] at hr
    refine Wq.up (S := Nat → Nat → Nat → Int32) 12 (fun k _ => [some (pO 20 9 0), some (pI (nI P)), some (pI (nI k))]) (fun _ ν => rset m 9 ν) (fun k ν => Fr ν μ ∧ (∀ j, ν 21 0 j = if 197 + 12 * P ≤ j ∧ j < 197 + 12 * P + k then 0 else μ 21 0 j)) (fun ν hL => ?_) (fun k ν hk hL ih => ?_) 0 μ (by omega) ⟨Fr_rfl, fun j => by rw [if_neg (by omega)]⟩
    · obtain ⟨f, a⟩ := hL
      have a' : ∀ j, ¬ (197 + 12 * P ≤ j ∧ j < 197 + 12 * P + 12) → ν 21 0 j = μ 21 0 j := fun j z1 => by rw [a j, if_neg z1]
      have az : ∀ k, k < 12 → ν 21 0 (197 + 12 * P + k) = 0 := fun k hk => by rw [a, if_pos (by omega)]
      refine sgX5_addPupil_38 ⟨fun _ => ?_, fun q => absurd (geL (Nat.le_refl 12) (by decide)) q⟩
      simp (disch := omega) only [ixn, nI_1, nI_add, pk_mul, nI_p0, of0, of1, of2, of3, of4, of5, of6, of7, of8, dv16, dv4, rm4, at_n, pl_n, ce_n, oe_n, oe0, oe1, oe2, ix_0, ix_1, ix_2, ix_3, ix_4, ix_5, ix_6, ix_7, ix_8, setI_eq, rset_rset, rset_s, rset_2, tI_s, tI_t, tI_j, tI_k]
      refine ⟨vp_in_nI (by omega) (by decide), vp_in_nI (by omega) (by decide), vp_in_nI (by omega) (by decide), ?_⟩
      rw [a' 0 (by omega), a' 2 (by omega), hr.1 0 (by decide), hr.1 2 (by decide), hI.hP, show nI P + 1 = nI (P + 1) from nI_add _ 1]
      refine h hP12 μ _ sv (Fr_trans Fr_21 (Fr_trans Fr_21 (Fr_trans Fr_21 (Fr_trans Fr_21 f)))) ?_
      rw [tI_r, tI_r, tI_r, tI_r]
      refine ⟨fun k hk => ?_, fun k hk => ?_, fun i hi hiE => ?_, fun p hp k hk => ?_, fun e he => ?_⟩
      · by_cases k2 : k = 2
        · subst k2
          rw [upd_e]
          unfold fAddP
          simp (disch := omega) only [setI_eq, rset_rset, rset_s, rset_2, tI_s, tI_t, tI_j, tI_k]
        · rw [upd_o k2, upd_o (by omega), upd_o (by omega), upd_o (by omega), a' k (by omega), hr.1 k hk]
          unfold fAddP
          simp (disch := omega) only [setI_eq, rset_rset, rset_s, rset_2, tI_s, tI_t, tI_j, tI_k]
      · rw [upd_o (by omega), upd_o (by omega), upd_o (by omega), upd_o (by omega), a' _ (by omega), hr.2.1 k hk]
        unfold fAddP
        simp (disch := omega) only [setI_eq, rset_rset, rset_s, rset_2, tI_s, tI_t, tI_j, tI_k]
      · rw [upd_o (by omega), upd_o (by omega), upd_o (by omega), upd_o (by omega), a' _ (by omega), hr.2.2.1 i hi hiE]
        unfold fAddP
        simp (disch := omega) only [setI_eq, rset_rset, rset_s, rset_2, tI_s, tI_t, tI_j, tI_k]
      · rw [upd_o (by omega)]
        by_cases z : p = P
        · subst z
          obtain ⟨z0, z1, z3, z4, z5, z6, z7, z8⟩ := hI.2.2.2.2.2.2.2.2.2.2.2.1 p (Nat.le_refl p) hP12
          have : k = 0 ∨ k = 1 ∨ k = 2 ∨ k = 3 ∨ k = 4 ∨ k = 5 ∨ k = 6 ∨ k = 7 ∨ k = 8 := by omega
          unfold fAddP
          rcases this with rfl | rfl | rfl | rfl | rfl | rfl | rfl | rfl | rfl
          · rw [upd_o (by omega), upd_o (by omega), upd_o (by omega), az 0 (by decide), tI_k (by decide), tI_t (by decide), z0]
          · rw [upd_o (by omega), upd_o (by omega), upd_o (by omega), az 1 (by decide), tI_k (by decide), tI_t (by decide), z1]
          · rw [upd_o (by omega), upd_o (by omega), upd_e, tI_s]
          · rw [upd_o (by omega), upd_e, tI_k (by decide), tI_t (by decide), z3]
          · rw [upd_e, tI_k (by decide), tI_t (by decide), z4]
          · rw [upd_o (by omega), upd_o (by omega), upd_o (by omega), az 5 (by decide), tI_k (by decide), tI_t (by decide), z5]
          · rw [upd_o (by omega), upd_o (by omega), upd_o (by omega), az 6 (by decide), tI_k (by decide), tI_t (by decide), z6]
          · rw [upd_o (by omega), upd_o (by omega), upd_o (by omega), az 7 (by decide), tI_k (by decide), tI_t (by decide), z7]
          · rw [upd_o (by omega), upd_o (by omega), upd_o (by omega), az 8 (by decide), tI_k (by decide), tI_t (by decide), z8]
        · rw [upd_o (by omega), upd_o (by omega), upd_o (by omega), a' _ (by omega), hr.2.2.2.1 p (by omega) k hk]
          unfold fAddP
          simp (disch := omega) only [setI_eq, rset_rset, rset_s, rset_2, tI_s, tI_t, tI_j, tI_k]
      · obtain ⟨b0, b1, b2, b3⟩ := hr.2.2.2.2 e he
        have t6 : fAddP P τ 6 = τ 6 := by unfold fAddP; simp (disch := omega) only [setI_eq, rset_rset, rset_s, rset_2, tI_s, tI_t, tI_j, tI_k]
        have t5 : fAddP P τ 5 = τ 5 := by unfold fAddP; simp (disch := omega) only [setI_eq, rset_rset, rset_s, rset_2, tI_s, tI_t, tI_j, tI_k]
        rw [t6, t5]
        refine ⟨?_, ?_, ?_, fun k hk => ?_⟩
        · rw [upd_o (by omega), upd_o (by omega), upd_o (by omega), upd_o (by omega), a' _ (by omega), b0]
        · rw [upd_o (by omega), upd_o (by omega), upd_o (by omega), upd_o (by omega), a' _ (by omega), b1]
        · rw [upd_o (by omega), upd_o (by omega), upd_o (by omega), upd_o (by omega), a' _ (by omega), b2]
        · rw [upd_o (by omega), upd_o (by omega), upd_o (by omega), upd_o (by omega), a' _ (by omega), b3 k hk]
    · obtain ⟨f, a⟩ := hL
      refine sgX5_addPupil_38 ⟨fun q => absurd q (ngeL hk (by decide)), fun _ => ?_⟩
      rw [of_n, ixn (by omega), nI_1, setI_eq, rset_rset, rset_s]
      refine ⟨vp_in_nI (by omega) (by decide), ih _ ⟨Fr_trans Fr_21 f, fun j => ?_⟩⟩
      by_cases z : j = 197 + 12 * P + k
      · subst z
        rw [tI_s, if_pos (by omega)]
      · rw [tI_k z, a j]
        by_cases z1 : 197 + 12 * P ≤ j ∧ j < 197 + 12 * P + k
        · rw [if_pos z1, if_pos (by omega)]
        · rw [if_neg z1, if_neg (by omega)]
theorem mo_firstError (hl : m.1 9 20 0 6 = nI L) (hL : L ≤ 60) (h : ∀ μ w, SgO (tI (m.1 9) 20 0 0 0) μ (PR (m.1 9 24 0) L 60 0).2.1 w → Q (.inl (some (pI (nI (PR (m.1 9 24 0) L 60 0).2.1)))) (rset m 9 μ) c n) (hend : (PR (m.1 9 24 0) L 60 0).1 = true → (PR (m.1 9 24 0) L 60 0).2.1 = L) : Wq g (d + 8) MX5_firstError c n 0 [some (pO 20 9 0)] [] m Q := by
  refine sgX5_firstError ?_
  rw [setI_eq]
  refine mo_go0 (T := m.1 9 24 0) (by rw [tI_t (by decide)]) (by rw [tI_k (by decide)]; exact hl) hL fun μ s => ⟨rfl, rfl, ?_⟩
  dsimp only [cI]
  rw [rset_s, s.2.2.2, s.2.2.1, s.2.1 6 (by decide) (by decide), tI_k (by decide), hl]
  have h' := h μ _ s
  refine ⟨fun q => ?_, fun _ => h'⟩
  by_cases e : (PR (m.1 9 24 0) L 60 0).1 = true
  · rw [hend e] at h'
    exact h'
  · rw [if_neg e] at q
    exact absurd q (by decide)
theorem mo_go0' (hl : m.1 9 20 0 6 = nI L) (hL : L ≤ 60) (h : ∀ μ', SgO (m.1 9) μ' (PR (m.1 9 24 0) L 60 0).2.1 (if (PR (m.1 9 24 0) L 60 0).1 then 0 else 1) → Q (.inl (some (pI 0))) (rset m 9 μ') c n) : Wq g (d + 7) MX5_go c n 0 [some (pO 20 9 0), some (pI 0)] [] m Q := by
  have := mo_go0 (g := g) (d := d) (m := m) (μ0 := m.1 9) (T := m.1 9 24 0) rfl hl hL h
  rw [rset_id] at this
  exact this
theorem mo_run (hl : m.1 9 20 0 6 = nI L) (hL : L ≤ 60) (hR : Rel E P τ (m.1 9 21 0)) (hV : Vv K E P τ) (hK : K + 4 * L + 5 < 2 ^ 31) (hS : m.1 9 20 0 4 = nI S) (hS6 : S ≤ 6) (h2 : (PR (m.1 9 24 0) L 60 0).1 = false → ∀ μ i w, SgO (m.1 9) μ i w → Q (.inl (some (pI 0))) (rset m 9 (tI μ 20 0 0 1)) c n) (h : (PR (m.1 9 24 0) L 60 0).1 = true → ∀ μ0 i w μ μ', SgO (m.1 9) μ0 i w → SvF S μ0 μ → GoO μ μ' → Rel E P (oRun E P (PR (m.1 9 24 0) L 60 0).2.2 τ).2 (μ' 21 0) → Q (.inl (some (pI (nI (oRun E P (PR (m.1 9 24 0) L 60 0).2.2 τ).1)))) (rset m 9 (tI μ' 20 0 6 0)) c n) : Wq g (d + 8) MX5_run c n 0 [some (pO 20 9 0)] [] m Q := by
  refine sgX5_run ?_
  refine mo_go0' hl hL fun μ0 s => ⟨rfl, rfl, ?_⟩
  dsimp only [cI]
  rw [rset_s, s.2.2.2]
  cases e : (PR (m.1 9 24 0) L 60 0).1 with
  | false =>
    refine ⟨fun z => absurd (show (1 : Int32) = 0 from z) (by decide), fun _ => ?_⟩
    rw [setI_eq, rset_rset, rset_s]
    exact h2 e μ0 _ _ s
  | true =>
    refine ⟨fun _ => ?_, fun z => absurd rfl z⟩
    refine sv_f (m := rset m 9 μ0) (S := S) (by rw [rset_s, s.2.1 4 (by decide) (by decide)]; exact hS) hS6 fun μ sv => ⟨rfl, rfl, ?_⟩
    rw [rset_s] at sv
    rw [rset_rset]
    dsimp only [cV]
    have e24 : μ 24 0 = m.1 9 24 0 := by rw [sv.1 24 (by decide) (by decide), tI_t (by decide), s.1 24 (by decide) (by decide)]
    have e6 : μ 20 0 6 = nI L := by rw [sv.2.1 6 (by decide), tI_k (by decide), s.2.1 6 (by decide) (by decide), hl]
    have e21 : Rel E P τ (μ 21 0) := by rw [sv.1 21 (by decide) (by decide), tI_t (by decide), s.1 21 (by decide) (by decide)]; exact hR
    refine mo_go1 (K := K) (E := E) (P := P) (τ := τ) e24 e6 hL e21 hV hK e fun μ' g1 g2 => ⟨rfl, rfl, ?_⟩
    dsimp only [cI]
    rw [setI_eq, rset_rset, rset_s]
    exact h e μ0 _ _ μ μ' s sv g1 g2
end MB
