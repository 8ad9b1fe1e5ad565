/-! THE MODEL: orders one after another -/
theorem kA_no {x : Int32} (h : kA x = none) : ¬ x = 97 ∧ ¬ x = 113 ∧ ¬ x = 112 ∧ ¬ x = 102 ∧ ¬ x = 105 ∧ ¬ x = 110 := by
  have := fnd_none.mp h
  refine ⟨?_, ?_, ?_, ?_, ?_, ?_⟩
  · have := this 0 (by decide) (by decide); simpa [wdB] using this
  · have := this 1 (by decide) (by decide); simpa [wdB] using this
  · have := this 2 (by decide) (by decide); simpa [wdB] using this
  · have := this 3 (by decide) (by decide); simpa [wdB] using this
  · have := this 4 (by decide) (by decide); simpa [wdB] using this
  · have := this 5 (by decide) (by decide); simpa [wdB] using this
theorem PO_b0 {T : Nat → Int32} {L i : Nat} (h : (PO T L i).2.2.1 < 4) : (PO T L i).2.2.2.2 = 0 := by
  cases ek : kA (ch T L i) with
  | none => rw [PO_n ek]
  | some k =>
    cases ew : mW T L (wdB.getD k []) i with
    | mk b j =>
      cases b with
      | false => rw [PO_f ek ew]
      | true =>
        by_cases k5 : k = 5
        · subst k5
          rw [PO_5 ek ew]
        · by_cases k4 : k = 4
          · subst k4
            rw [PO_4 ek ew] at h ⊢
            split at h
            · rename_i q
              rw [if_pos q]
            · rename_i q
              rw [if_neg q]
              split at h
              · rename_i q2
                rw [if_pos q2]
                split at h
                · rename_i q3
                  rw [if_pos q3]
                · exact absurd h (Nat.lt_irrefl 4)
              · rename_i q2
                rw [if_neg q2]
          · rw [PO_k ek ew k4 k5]
            split <;> rfl
/-- rows that a run leaves -/
def GoO (μ0 μ : Nat → Nat → Nat → Int32) : Prop := (∀ t, t ≠ 20 → t ≠ 21 → t ≠ 25 → t ≠ 26 → μ t = μ0 t) ∧ (∀ k, k ≠ 8 → k ≠ 9 → μ 20 0 k = μ0 20 0 k)
theorem PR_s {T : Nat → Int32} {L f i : Nat} : PR T L (f + 1) i = if (PO T L i).1 = true then (if L ≤ (PO T L i).2.1 then (true, (PO T L i).2.1, [(PO T L i).2.2]) else if ch T L (PO T L i).2.1 = 59 then ((PR T L f ((PO T L i).2.1 + 1)).1, (PR T L f ((PO T L i).2.1 + 1)).2.1, (PO T L i).2.2 :: (PR T L f ((PO T L i).2.1 + 1)).2.2) else (false, (PO T L i).2.1, [(PO T L i).2.2])) else (false, (PO T L i).2.1, []) := by
  rw [PR]
  cases e : PO T L i with
  | mk b r =>
    obtain ⟨j, o⟩ := r
    cases b with
    | false => rfl
    | true => rfl
section M7
variable {g : GG} {d : Nat} {c n : Nat} {m : PM} {Q : Ou → PM → Nat → Nat → Prop} {L i w : Nat} {T : Nat → Int32} {μ0 μ : Nat → Nat → Nat → Int32} {K E P : Nat} {τ : Nat → Nat → Nat → Int32}
theorem mo_order (hT : μ 24 0 = T) (hl : μ 20 0 6 = nI L) (hL : L ≤ 60) (h8 : μ 20 0 8 = nI i) (h9 : μ 20 0 9 = 0) (hi : i ≤ L) (h : ∀ μ', OrdE (PO T L i) μ μ' → Q (.inl none) (rset m 9 μ') c n) : Wq g (d + 3) MX5_order c n 0 [some (pO 20 9 0)] [] (rset m 9 μ) Q := by
  have mid : Wq g (d + 3) MX5_order c n 24 [some (pO 20 9 0), none, none, none] [pI (ch T L i)] (rset m 9 μ) Q := by
    have s0 : Sg μ (tI (tI μ 20 0 9 1) 20 0 8 (nI i)) i 1 := ⟨fun t q => by rw [tI_t q, tI_t q], fun k q r => by simp (disch := omega) only [setI_eq, rset_rset, rset_s, rset_2, tI_s, tI_t, tI_j, tI_k], by simp (disch := omega) only [setI_eq, rset_rset, rset_s, rset_2, tI_s, tI_t, tI_j, tI_k], by simp (disch := omega) only [setI_eq, rset_rset, rset_s, rset_2, tI_s, tI_t, tI_j, tI_k]; rfl⟩
    have s1 : Sg μ (tI (tI μ 20 0 9 0) 20 0 8 (nI (i + 1))) (i + 1) 0 := ⟨fun t q => by rw [tI_t q, tI_t q], fun k q r => by simp (disch := omega) only [setI_eq, rset_rset, rset_s, rset_2, tI_s, tI_t, tI_j, tI_k], by simp (disch := omega) only [setI_eq, rset_rset, rset_s, rset_2, tI_s, tI_t, tI_j, tI_k], by simp (disch := omega) only [setI_eq, rset_rset, rset_s, rset_2, tI_s, tI_t, tI_j, tI_k]; rfl⟩
    cases ek : kA (ch T L i) with
    | none =>
      obtain ⟨k0, k1, k2, k3, k4, k5⟩ := kA_no ek
      rw [PO_n ek] at h
      refine sgX5_order_24 ⟨fun q => absurd (by rw [rset_s]; exact h9) q, fun _ => ⟨fun z => absurd z k0, fun _ => ⟨fun z => absurd z k1, fun _ => ⟨fun z => absurd z k2, fun _ => ⟨fun z => absurd z k3, fun _ => ⟨fun z => absurd z k4, fun _ => ⟨fun z => absurd z k5, fun _ => sgX5_order_69 (sgX5_order_74 ⟨Or.inr rfl, ?_⟩)⟩⟩⟩⟩⟩⟩⟩
      simp (disch := omega) only [ixn, nI_1, nI_add, pk_mul, nI_p0, of0, of1, of2, of3, of4, of5, of6, of7, of8, dv16, dv4, rm4, at_n, pl_n, ce_n, oe_n, oe0, oe1, oe2, ix_0, ix_1, ix_2, ix_3, ix_4, ix_5, ix_6, ix_7, ix_8, setI_eq, rset_rset, rset_s, rset_2, tI_s, tI_t, tI_j, tI_k]
      rw [h8]
      refine ⟨fun z => absurd z (by decide), fun _ => sgX5_order_94 ?_⟩
      simp (disch := omega) only [ixn, nI_1, nI_add, pk_mul, nI_p0, of0, of1, of2, of3, of4, of5, of6, of7, of8, dv16, dv4, rm4, at_n, pl_n, ce_n, oe_n, oe0, oe1, oe2, ix_0, ix_1, ix_2, ix_3, ix_4, ix_5, ix_6, ix_7, ix_8, setI_eq, rset_rset, rset_s, rset_2, tI_s, tI_t, tI_j, tI_k]
      refine ⟨fun z => absurd z (by decide), fun _ => h _ ⟨?_, fun z => absurd z Bool.false_ne_true⟩⟩
      exact SgO_26 (Sg_O s0)
    | some k =>
      have hk := kA_lt ek
      have hx := kA_eq ek
      have hx' : ch T L i = ltr k := hx
      have hiL : i < L := Classical.byContradiction fun z => by
        rw [ch_ge (by omega)] at hx'
        have : k = 0 ∨ k = 1 ∨ k = 2 ∨ k = 3 ∨ k = 4 ∨ k = 5 := by omega
        rcases this with rfl | rfl | rfl | rfl | rfl | rfl <;> exact absurd hx' (by decide)
      rw [hx']
      have fin : Wq g (d + 3) MX5_order c n 184 [some (pO 20 9 0), some (pI (ltr k)), none, none] [pI (pk k)] (rset m 9 (tI (tI (tI μ 20 0 9 0) 20 0 8 (nI (i + 1))) 26 0 0 (ltr k))) Q := mo_order_184 hT hl hL (SgO_26 (Sg_O s1)) tI_s hiL hk ek h
      have go : Wq g (d + 3) MX5_order c n 73 [some (pO 20 9 0), some (pI (ltr k)), none, none] [pO 20 9 0] (rset m 9 μ) Q := by
        refine sgX5_order_73 (sgX5_order_74 ⟨Or.inl rfl, ?_⟩)
        simp (disch := omega) only [ixn, nI_1, nI_add, pk_mul, nI_p0, of0, of1, of2, of3, of4, of5, of6, of7, of8, dv16, dv4, rm4, at_n, pl_n, ce_n, oe_n, oe0, oe1, oe2, ix_0, ix_1, ix_2, ix_3, ix_4, ix_5, ix_6, ix_7, ix_8, setI_eq, rset_rset, rset_s, rset_2, tI_s, tI_t, tI_j, tI_k]
        rw [h8]
        refine ⟨fun _ => sgX5_order_94 ?_, fun z => absurd trivial z⟩
        rw [show nI i + 1 = nI (i + 1) from nI_add _ 1]
        simp (disch := omega) only [ixn, nI_1, nI_add, pk_mul, nI_p0, of0, of1, of2, of3, of4, of5, of6, of7, of8, dv16, dv4, rm4, at_n, pl_n, ce_n, oe_n, oe0, oe1, oe2, ix_0, ix_1, ix_2, ix_3, ix_4, ix_5, ix_6, ix_7, ix_8, setI_eq, rset_rset, rset_s, rset_2, tI_s, tI_t, tI_j, tI_k]
        refine ⟨fun _ => ?_, fun z => absurd trivial z⟩
        have : k = 0 ∨ k = 1 ∨ k = 2 ∨ k = 3 ∨ k = 4 ∨ k = 5 := by omega
        rcases this with rfl | rfl | rfl | rfl | rfl | rfl
        · exact ⟨fun z => absurd rfl z, fun _ => sgX5_order_148 ⟨fun _ => ⟨fun _ => ⟨fun _ => fin, fun z => absurd z (by decide)⟩, fun z => absurd z (by decide)⟩, fun z => absurd z (by decide)⟩⟩
        · exact ⟨fun _ => ⟨fun z => absurd rfl z, fun _ => sgX5_order_148 ⟨fun _ => ⟨fun _ => ⟨fun _ => fin, fun z => absurd z (by decide)⟩, fun z => absurd z (by decide)⟩, fun z => absurd z (by decide)⟩⟩, fun z => absurd z (by decide)⟩
        · exact ⟨fun _ => ⟨fun _ => ⟨fun z => absurd rfl z, fun _ => sgX5_order_148 ⟨fun _ => ⟨fun _ => ⟨fun _ => fin, fun z => absurd z (by decide)⟩, fun z => absurd z (by decide)⟩, fun z => absurd z (by decide)⟩⟩, fun z => absurd z (by decide)⟩, fun z => absurd z (by decide)⟩
        · exact ⟨fun _ => ⟨fun _ => ⟨fun _ => sgX5_order_148 ⟨fun z => absurd rfl z, fun _ => fin⟩, fun z => absurd z (by decide)⟩, fun z => absurd z (by decide)⟩, fun z => absurd z (by decide)⟩
        · exact ⟨fun _ => ⟨fun _ => ⟨fun _ => sgX5_order_148 ⟨fun _ => ⟨fun z => absurd rfl z, fun _ => fin⟩, fun z => absurd z (by decide)⟩, fun z => absurd z (by decide)⟩, fun z => absurd z (by decide)⟩, fun z => absurd z (by decide)⟩
        · exact ⟨fun _ => ⟨fun _ => ⟨fun _ => sgX5_order_148 ⟨fun _ => ⟨fun _ => ⟨fun z => absurd rfl z, fun _ => fin⟩, fun z => absurd z (by decide)⟩, fun z => absurd z (by decide)⟩, fun z => absurd z (by decide)⟩, fun z => absurd z (by decide)⟩, fun z => absurd z (by decide)⟩
      have h9' : (rset m 9 μ).1 9 20 0 9 = 0 := by rw [rset_s]; exact h9
      have : k = 0 ∨ k = 1 ∨ k = 2 ∨ k = 3 ∨ k = 4 ∨ k = 5 := by omega
      clear fin hx hx'
      rcases this with rfl | rfl | rfl | rfl | rfl | rfl
      · exact sgX5_order_24 ⟨fun q => absurd h9' q, fun _ => ⟨fun _ => go, fun z => absurd rfl z⟩⟩
      · exact sgX5_order_24 ⟨fun q => absurd h9' q, fun _ => ⟨fun z => absurd z (by decide), fun _ => ⟨fun _ => go, fun z => absurd rfl z⟩⟩⟩
      · exact sgX5_order_24 ⟨fun q => absurd h9' q, fun _ => ⟨fun z => absurd z (by decide), fun _ => ⟨fun z => absurd z (by decide), fun _ => ⟨fun _ => go, fun z => absurd rfl z⟩⟩⟩⟩
      · exact sgX5_order_24 ⟨fun q => absurd h9' q, fun _ => ⟨fun z => absurd z (by decide), fun _ => ⟨fun z => absurd z (by decide), fun _ => ⟨fun z => absurd z (by decide), fun _ => ⟨fun _ => go, fun z => absurd rfl z⟩⟩⟩⟩⟩
      · exact sgX5_order_24 ⟨fun q => absurd h9' q, fun _ => ⟨fun z => absurd z (by decide), fun _ => ⟨fun z => absurd z (by decide), fun _ => ⟨fun z => absurd z (by decide), fun _ => ⟨fun z => absurd z (by decide), fun _ => ⟨fun _ => go, fun z => absurd rfl z⟩⟩⟩⟩⟩⟩
      · exact sgX5_order_24 ⟨fun q => absurd h9' q, fun _ => ⟨fun z => absurd z (by decide), fun _ => ⟨fun z => absurd z (by decide), fun _ => ⟨fun z => absurd z (by decide), fun _ => ⟨fun z => absurd z (by decide), fun _ => ⟨fun z => absurd z (by decide), fun _ => ⟨fun _ => go, fun z => absurd rfl z⟩⟩⟩⟩⟩⟩⟩
  refine sgX5_order ?_
  rw [rset_s, hl, h8, hT, nI_leI (by omega) (by omega)]
  refine ⟨fun q => ?_, fun q => ⟨vp_in_nI (by omega) (by decide), ?_⟩⟩
  · rw [ch_ge q] at mid
    exact mid
  · rw [ch_lt (by omega)] at mid
    rw [ixn (by omega)]
    exact mid
theorem Sg59 {j : Nat} (h : ¬ ch T L j = 59) (w : Nat) : sgn T L 59 59 j w = (j, 1) := if_neg (fun z => h (Int32.le_antisymm (Int32.not_lt.mp z.2.2) (Int32.not_lt.mp z.2.1)))
theorem mo_go0 (hT : μ0 24 0 = T) (hl : μ0 20 0 6 = nI L) (hL : L ≤ 60) (h : ∀ μ', SgO μ0 μ' (PR T L 60 0).2.1 (if (PR T L 60 0).1 then 0 else 1) → Q (.inl (some (pI 0))) (rset m 9 μ') c n) : Wq g (d + 7) MX5_go c n 0 [some (pO 20 9 0), some (pI 0)] [] (rset m 9 μ0) Q := by
  have main : ∀ (f i : Nat) (μ : Nat → Nat → Nat → Int32), L ≤ i + f + 1 → i ≤ L → SgO μ0 μ i 0 → (∀ μ', SgO μ0 μ' (PR T L (f + 1) i).2.1 (if (PR T L (f + 1) i).1 then 0 else 1) → Q (.inl (some (pI 0))) (rset m 9 μ') c n) → Wq g (d + 7) MX5_go c n 14 [some (pO 20 9 0), some (pI 0), some (pI 0), some (pI 1), none, none] [] (rset m 9 μ) Q := by
    intro f
    induction f with
    | zero =>
      intro i μ hf hi s hq
      refine sgX5_go_14 ⟨fun z => absurd z (by decide), fun _ => ?_⟩
      refine mo_order (T := T) (L := L) (i := i) (by rw [s.1 24 (by decide) (by decide), hT]) (by rw [s.2.1 6 (by decide) (by decide), hl]) hL s.2.2.1 s.2.2.2 hi fun μ1 o1 => ⟨rfl, rfl, ?_⟩
      dsimp only [cV]
      have hp := PO_ok (T := T) hi
      obtain ⟨s1, _⟩ := o1
      have s1' : SgO μ0 μ1 (PO T L i).2.1 (if (PO T L i).1 then 0 else 1) := ⟨fun t a b => (s1.1 t a b).trans (s.1 t a b), fun k a b => (s1.2.1 k a b).trans (s.2.1 k a b), s1.2.2.1, s1.2.2.2⟩
      rw [PR_s] at hq
      rw [rset_s, s1'.2.2.2, s1'.2.2.1, s1'.2.1 6 (by decide) (by decide), hl, Int32.add_zero]
      refine ⟨fun _ => ?_, fun z => absurd rfl z⟩
      by_cases q : (PO T L i).1 = true
      · rw [if_pos q] at s1' hq ⊢
        have : L ≤ (PO T L i).2.1 := by have := (hp.2.2 q).1; omega
        rw [if_pos this] at hq
        refine ⟨fun z => absurd rfl z, fun _ => ⟨fun z => absurd rfl z, fun _ => ⟨fun _ => ?_, fun z => absurd (geL this (by omega)) z⟩⟩⟩
        exact sgX5_go_14 ⟨fun _ => hq μ1 s1', fun z => absurd rfl z⟩
      · rw [if_neg q] at s1' hq ⊢
        refine ⟨fun _ => ?_, fun z => absurd z (by decide)⟩
        exact sgX5_go_14 ⟨fun _ => hq μ1 s1', fun z => absurd rfl z⟩
    | succ f ih =>
      intro i μ hf hi s hq
      refine sgX5_go_14 ⟨fun z => absurd z (by decide), fun _ => ?_⟩
      refine mo_order (T := T) (L := L) (i := i) (by rw [s.1 24 (by decide) (by decide), hT]) (by rw [s.2.1 6 (by decide) (by decide), hl]) hL s.2.2.1 s.2.2.2 hi fun μ1 o1 => ⟨rfl, rfl, ?_⟩
      dsimp only [cV]
      have hp := PO_ok (T := T) hi
      obtain ⟨s1, _⟩ := o1
      have s1' : SgO μ0 μ1 (PO T L i).2.1 (if (PO T L i).1 then 0 else 1) := ⟨fun t a b => (s1.1 t a b).trans (s.1 t a b), fun k a b => (s1.2.1 k a b).trans (s.2.1 k a b), s1.2.2.1, s1.2.2.2⟩
      rw [PR_s] at hq
      rw [rset_s, s1'.2.2.2, s1'.2.2.1, s1'.2.1 6 (by decide) (by decide), hl, Int32.add_zero]
      refine ⟨fun _ => ?_, fun z => absurd rfl z⟩
      by_cases q : (PO T L i).1 = true
      · rw [if_pos q] at s1' hq ⊢
        refine ⟨fun z => absurd rfl z, fun _ => ⟨fun z => absurd rfl z, fun _ => ?_⟩⟩
        rw [nI_leI (by omega) (by omega)]
        refine ⟨fun q2 => ?_, fun q2 => ?_⟩
        · rw [if_pos q2] at hq
          exact sgX5_go_14 ⟨fun _ => hq μ1 s1', fun z => absurd rfl z⟩
        · rw [if_neg q2] at hq
          refine mo_sgO (T := T) hT hl hL s1' hp.2.1 (by decide) (by decide) fun μ2 s2 _ => ⟨rfl, rfl, ?_⟩
          dsimp only [cI]
          rw [rset_s, s2.2.2.2]
          by_cases q3 : ch T L (PO T L i).2.1 = 59
          · rw [if_pos q3] at hq
            rw [show sgn T L 59 59 (PO T L i).2.1 0 = ((PO T L i).2.1 + 1, 0) from if_pos ⟨rfl, by rw [q3]; decide⟩] at s2 ⊢
            refine ⟨fun z => absurd rfl z, fun _ => ?_⟩
            exact ih ((PO T L i).2.1 + 1) μ2 (by have := (hp.2.2 q).1; omega) (by omega) s2 hq
          · rw [if_neg q3] at hq
            rw [Sg59 q3] at s2 ⊢
            refine ⟨fun _ => ?_, fun z => absurd (show nI 1 = 0 from z) (by decide)⟩
            exact sgX5_go_14 ⟨fun _ => hq μ2 s2, fun z => absurd rfl z⟩
      · rw [if_neg q] at s1' hq ⊢
        refine ⟨fun _ => ?_, fun z => absurd z (by decide)⟩
        exact sgX5_go_14 ⟨fun _ => hq μ1 s1', fun z => absurd rfl z⟩
  refine sgX5_go ?_
  simp (disch := omega) only [ixn, nI_1, nI_add, pk_mul, nI_p0, of0, of1, of2, of3, of4, of5, of6, of7, of8, dv16, dv4, rm4, at_n, pl_n, ce_n, oe_n, oe0, oe1, oe2, ix_0, ix_1, ix_2, ix_3, ix_4, ix_5, ix_6, ix_7, ix_8, setI_eq, rset_rset, rset_s, rset_2, tI_s, tI_t, tI_j, tI_k]
  refine main 59 0 _ (by omega) (by omega) ⟨fun t a b => ?_, fun k a b => ?_, ?_, ?_⟩ h
  · rw [tI_t a, tI_t a]
  · simp (disch := omega) only [setI_eq, rset_rset, rset_s, rset_2, tI_s, tI_t, tI_j, tI_k]
  · simp (disch := omega) only [setI_eq, rset_rset, rset_s, rset_2, tI_s, tI_t, tI_j, tI_k]; rfl
  · simp (disch := omega) only [setI_eq, rset_rset, rset_s, rset_2, tI_s, tI_t, tI_j, tI_k]; rfl
theorem mo_go1 (hT : μ0 24 0 = T) (hl : μ0 20 0 6 = nI L) (hL : L ≤ 60) (hR : Rel E P τ (μ0 21 0)) (hV : Vv K E P τ) (hK : K + 4 * L + 5 < 2 ^ 31) (hPR : (PR T L 60 0).1 = true) (h : ∀ μ', GoO μ0 μ' → Rel E P (oRun E P (PR T L 60 0).2.2 τ).2 (μ' 21 0) → Q (.inl (some (pI (nI (oRun E P (PR T L 60 0).2.2 τ).1)))) (rset m 9 μ') c n) : Wq g (d + 7) MX5_go c n 0 [some (pO 20 9 0), some (pI 1)] [] (rset m 9 μ0) Q := by
  have main : ∀ (f i a K : Nat) (μ : Nat → Nat → Nat → Int32) (τ : Nat → Nat → Nat → Int32), L ≤ i + f + 1 → i ≤ L → GoO μ0 μ → μ 20 0 8 = nI i → μ 20 0 9 = 0 → Rel E P τ (μ 21 0) → Vv K E P τ → K + 4 * (L - i) + 5 < 2 ^ 31 → (PR T L (f + 1) i).1 = true → (∀ μ', GoO μ0 μ' → Rel E P (oRun E P (PR T L (f + 1) i).2.2 τ).2 (μ' 21 0) → Q (.inl (some (pI (nI (a + (oRun E P (PR T L (f + 1) i).2.2 τ).1))))) (rset m 9 μ') c n) → Wq g (d + 7) MX5_go c n 14 [some (pO 20 9 0), some (pI 1), some (pI (nI a)), some (pI 1), none, none] [] (rset m 9 μ) Q := by
    intro f
    induction f with
    | zero =>
      intro i a K μ τ hf hi s h8 h9 hR hV hK hPR hq
      refine sgX5_go_14 ⟨fun z => absurd z (by decide), fun _ => ?_⟩
      refine mo_order (T := T) (L := L) (i := i) (by rw [s.1 24 (by decide) (by decide) (by decide) (by decide), hT]) (by rw [s.2 6 (by decide) (by decide), hl]) hL h8 h9 hi fun μ1 o1 => ⟨rfl, rfl, ?_⟩
      dsimp only [cV]
      have hp := PO_ok (T := T) hi
      have hb0 := PO_b0 (T := T) (L := L) (i := i)
      obtain ⟨s1, o26⟩ := o1
      rw [PR_s] at hq hPR
      by_cases q : (PO T L i).1 = true
      · rw [if_pos q] at s1 hq hPR
        obtain ⟨p1, p2, p3, p4, p5⟩ := hp.2.2 q
        have q2 : L ≤ (PO T L i).2.1 := by omega
        rw [if_pos q2] at hq hPR
        have sg : GoO μ0 μ1 := ⟨fun t a b e f => (s1.1 t a f).trans (s.1 t a b e f), fun k a b => (s1.2.1 k a b).trans (s.2 k a b)⟩
        obtain ⟨t0, t1, t2⟩ := o26 q
        refine ⟨fun z => absurd z (by decide), fun _ => ?_⟩
        refine mo_does (K := K) (E := E) (P := P) (τ := τ) (by rw [rset_s, s1.1 21 (by decide) (by decide)]; exact hR) hV (by omega) p2 p3 p5 hb0 (by rw [rset_s]; exact t0) (by rw [rset_s]; exact t1) (by rw [rset_s]; exact t2) (fun ok => ⟨rfl, rfl, ?_⟩) (fun ok μ2 f2 r2 => ⟨rfl, rfl, ?_⟩)
        · dsimp only [cI]
          rw [rset_s, s1.2.2.2]
          refine ⟨fun _ => ⟨fun z => absurd rfl z, fun _ => ⟨fun _ => ?_, fun z => absurd z (by decide)⟩⟩, fun z => absurd rfl z⟩
          refine sgX5_go_14 ⟨fun _ => ?_, fun z => absurd rfl z⟩
          have := hq μ1 sg (by
            rw [oRun, if_neg (by rw [show ((PO T L i).2.2.1, (PO T L i).2.2.2.1, (PO T L i).2.2.2.2) = (PO T L i).2.2 from rfl] at ok; rw [ok]; decide), s1.1 21 (by decide) (by decide)]
            exact hR)
          rw [oRun, if_neg (by rw [show ((PO T L i).2.2.1, (PO T L i).2.2.2.1, (PO T L i).2.2.2.2) = (PO T L i).2.2 from rfl] at ok; rw [ok]; decide)] at this
          rw [Int32.add_zero]
          exact this
        · dsimp only [cI]
          rw [rset_rset]
          rw [rset_s] at f2
          rw [rset_s, f2 20 (by decide) (by decide), s1.2.2.2, s1.2.2.1, s1.2.1 6 (by decide) (by decide), s.2 6 (by decide) (by decide), hl]
          refine ⟨fun z => absurd z (by decide), fun _ => ⟨fun z => absurd rfl z, fun _ => ⟨fun _ => ?_, fun z => absurd (geL q2 (by omega)) z⟩⟩⟩
          refine sgX5_go_14 ⟨fun _ => ?_, fun z => absurd rfl z⟩
          have ok' : oOk E P τ (PO T L i).2.2 = true := ok
          have := hq μ2 ⟨fun t a b e f => (f2 t b e).trans (sg.1 t a b e f), fun k a b => by rw [f2 20 (by decide) (by decide)]; exact sg.2 k a b⟩ (by
            rw [oRun, if_pos ok', oRun]
            exact r2)
          rw [oRun, if_pos ok', oRun] at this
          rw [show nI a + 1 = nI (a + 1) from nI_add _ 1]
          exact this
      · rw [if_neg q] at hPR
        exact absurd hPR (by simp)
    | succ f ih =>
      intro i a K μ τ hf hi s h8 h9 hR hV hK hPR hq
      refine sgX5_go_14 ⟨fun z => absurd z (by decide), fun _ => ?_⟩
      refine mo_order (T := T) (L := L) (i := i) (by rw [s.1 24 (by decide) (by decide) (by decide) (by decide), hT]) (by rw [s.2 6 (by decide) (by decide), hl]) hL h8 h9 hi fun μ1 o1 => ⟨rfl, rfl, ?_⟩
      dsimp only [cV]
      have hp := PO_ok (T := T) hi
      have hb0 := PO_b0 (T := T) (L := L) (i := i)
      obtain ⟨s1, o26⟩ := o1
      rw [PR_s] at hq hPR
      by_cases q : (PO T L i).1 = true
      · rw [if_pos q] at s1 hq hPR
        obtain ⟨p1, p2, p3, p4, p5⟩ := hp.2.2 q
        have sg : GoO μ0 μ1 := ⟨fun t a b e f => (s1.1 t a f).trans (s.1 t a b e f), fun k a b => (s1.2.1 k a b).trans (s.2 k a b)⟩
        obtain ⟨t0, t1, t2⟩ := o26 q
        refine ⟨fun z => absurd z (by decide), fun _ => ?_⟩
        refine mo_does (K := K) (E := E) (P := P) (τ := τ) (by rw [rset_s, s1.1 21 (by decide) (by decide)]; exact hR) hV (by omega) p2 p3 p5 hb0 (by rw [rset_s]; exact t0) (by rw [rset_s]; exact t1) (by rw [rset_s]; exact t2) (fun ok => ⟨rfl, rfl, ?_⟩) (fun ok μ2 f2 r2 => ⟨rfl, rfl, ?_⟩)
        · dsimp only [cI]
          have ok' : ¬ oOk E P τ (PO T L i).2.2 = true := by
            rw [show ((PO T L i).2.2.1, (PO T L i).2.2.2.1, (PO T L i).2.2.2.2) = (PO T L i).2.2 from rfl] at ok
            rw [ok]
            decide
          rw [rset_s, s1.2.2.2]
          refine ⟨fun _ => ⟨fun z => absurd rfl z, fun _ => ⟨fun _ => ?_, fun z => absurd z (by decide)⟩⟩, fun z => absurd rfl z⟩
          refine sgX5_go_14 ⟨fun _ => ?_, fun z => absurd rfl z⟩
          rw [Int32.add_zero]
          by_cases q2 : L ≤ (PO T L i).2.1
          · rw [if_pos q2] at hq
            have := hq μ1 sg (by
              rw [oRun, if_neg ok', s1.1 21 (by decide) (by decide)]
              exact hR)
            rw [oRun, if_neg ok'] at this
            exact this
          · rw [if_neg q2] at hq hPR
            by_cases q3 : ch T L (PO T L i).2.1 = 59
            · rw [if_pos q3] at hq
              have := hq μ1 sg (by
                rw [oRun, if_neg ok', s1.1 21 (by decide) (by decide)]
                exact hR)
              rw [oRun, if_neg ok'] at this
              exact this
            · rw [if_neg q3] at hPR
              exact absurd hPR (by simp)
        · dsimp only [cI]
          have ok' : oOk E P τ (PO T L i).2.2 = true := ok
          rw [rset_rset]
          rw [rset_s] at f2
          have sg2 : GoO μ0 μ2 := ⟨fun t a b e f => (f2 t b e).trans (sg.1 t a b e f), fun k a b => by rw [f2 20 (by decide) (by decide)]; exact sg.2 k a b⟩
          have g8 : μ2 20 0 8 = nI (PO T L i).2.1 := by rw [f2 20 (by decide) (by decide), s1.2.2.1]
          have g9 : μ2 20 0 9 = 0 := by rw [f2 20 (by decide) (by decide), s1.2.2.2]; rfl
          have g6 : μ2 20 0 6 = nI L := by rw [sg2.2 6 (by decide) (by decide), hl]
          rw [rset_s, g8, g9, g6, show nI a + 1 = nI (a + 1) from nI_add _ 1, nI_leI (by omega) (by omega)]
          refine ⟨fun z => absurd z (by decide), fun _ => ⟨fun z => absurd rfl z, fun _ => ⟨fun q2 => ?_, fun q2 => ?_⟩⟩⟩
          · refine sgX5_go_14 ⟨fun _ => ?_, fun z => absurd rfl z⟩
            rw [if_pos q2] at hq
            have := hq μ2 sg2 (by
              rw [oRun, if_pos ok', oRun]
              exact r2)
            rw [oRun, if_pos ok', oRun] at this
            exact this
          · rw [if_neg q2] at hq hPR
            by_cases q3 : ch T L (PO T L i).2.1 = 59
            · rw [if_pos q3] at hq hPR
              refine mo_sgO (T := T) (μ0 := μ2) (L := L) (w := 0) (by rw [sg2.1 24 (by decide) (by decide) (by decide) (by decide), hT]) g6 hL (Sg_O (Sg_id g8 g9)) hp.2.1 (by decide) (by decide) fun μ3 s3 e3 => ⟨rfl, rfl, ?_⟩
              dsimp only [cI]
              rw [rset_s, s3.2.2.2]
              rw [show sgn T L 59 59 (PO T L i).2.1 0 = ((PO T L i).2.1 + 1, 0) from if_pos ⟨rfl, by rw [q3]; decide⟩] at s3 ⊢
              refine ⟨fun z => absurd rfl z, fun _ => ?_⟩
              refine ih ((PO T L i).2.1 + 1) (a + 1) (K + 4) μ3 _ (by omega) (by omega) ⟨fun t a b e f => (s3.1 t a f).trans (sg2.1 t a b e f), fun k a b => (s3.2.1 k a b).trans (sg2.2 k a b)⟩ s3.2.2.1 s3.2.2.2 (by rw [s3.1 21 (by decide) (by decide)]; exact r2) (oDo_Vv hV ok p5 (by omega)) (by omega) hPR fun μ' gg rr => ?_
              have := hq μ' gg (by
                rw [oRun, if_pos ok']
                exact rr)
              rw [oRun, if_pos ok'] at this
              rw [Nat.add_assoc, Nat.add_comm 1]
              exact this
            · rw [if_neg q3] at hPR
              exact absurd hPR (by simp)
      · rw [if_neg q] at hPR
        exact absurd hPR (by simp)
  refine sgX5_go ?_
  simp (disch := omega) only [ixn, nI_1, nI_add, pk_mul, nI_p0, of0, of1, of2, of3, of4, of5, of6, of7, of8, dv16, dv4, rm4, at_n, pl_n, ce_n, oe_n, oe0, oe1, oe2, ix_0, ix_1, ix_2, ix_3, ix_4, ix_5, ix_6, ix_7, ix_8, setI_eq, rset_rset, rset_s, rset_2, tI_s, tI_t, tI_j, tI_k]
  refine main 59 0 0 K _ τ (by omega) (by omega) ⟨fun t a b e f => ?_, fun k a b => ?_⟩ ?_ ?_ ?_ hV (by omega) hPR (fun μ' a b => ?_)
  · rw [tI_t a, tI_t a]
  · simp (disch := omega) only [setI_eq, rset_rset, rset_s, rset_2, tI_s, tI_t, tI_j, tI_k]
  · simp (disch := omega) only [setI_eq, rset_rset, rset_s, rset_2, tI_s, tI_t, tI_j, tI_k]; rfl
  · simp (disch := omega) only [setI_eq, rset_rset, rset_s, rset_2, tI_s, tI_t, tI_j, tI_k]
  · rw [tI_t (by decide), tI_t (by decide)]
    exact hR
  · rw [Nat.zero_add]
    exact h μ' a b
end M7
