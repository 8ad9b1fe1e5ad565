/-! THE TEXT: orders -/
def TxF (τ σ : Nat → Nat → Nat → Int32) (o pos : Nat) : Prop := (∀ t, t ≠ 12 → t ≠ 14 → t ≠ 15 → t ≠ 16 → σ t = τ t) ∧ σ 12 0 1 = τ 12 0 1 ∧ σ 12 0 2 = nI pos ∧ σ 12 0 3 = τ 12 0 3 ∧ ∀ j, j ≠ o → σ 14 0 j = τ 14 0 j ∧ σ 15 0 j = τ 15 0 j ∧ σ 16 0 j = τ 16 0 j
def TxO (σ : Nat → Nat → Nat → Int32) (o : Nat) (v : Nat × Nat × Nat) : Prop := σ 14 0 o = nI v.1 ∧ (v.1 ≠ 5 → σ 15 0 o = nI v.2.1) ∧ (v.1 = 4 → σ 16 0 o = nI v.2.2)
theorem tnum_nn {T : Nat → Int32} {L : Nat} {hi : Int32} {i : Nat} : (tnum T L hi i).1 = -1 ∨ ∃ v, v < 100 ∧ (tnum T L hi i).1 = nI v ∧ nI v ≤ hi := by
  unfold tnum
  by_cases a : dgI T L i = -1 ∨ ¬ dgI T L i ≤ hi
  · rw [if_pos a]; exact Or.inl rfl
  · rw [if_neg a]
    right
    rcases dg_cases (T := T) (L := L) i with z | ⟨_, v, hv, e⟩
    · exact absurd (Or.inl z) a
    · by_cases b : dgI T L i = 0 ∨ dgI T L (i + 1) = -1 ∨ ¬ 10 * dgI T L i + dgI T L (i + 1) ≤ hi
      · rw [if_pos b, e]
        exact ⟨v, by omega, rfl, Classical.byContradiction fun z => a (Or.inr (by rw [e]; exact z))⟩
      · rw [if_neg b]
        rcases dg_cases (T := T) (L := L) (i + 1) with z | ⟨_, w, hw, e2⟩
        · exact absurd (Or.inr (Or.inl z)) b
        · have e3 : 10 * dgI T L i + dgI T L (i + 1) = nI (10 * v + w) := by
            rw [e, e2, show (10 : Int32) = nI 10 from rfl, pk_mul, nI_add]
          exact ⟨10 * v + w, by omega, e3, Classical.byContradiction fun z => b (Or.inr (Or.inr (by rw [e3]; exact z)))⟩
theorem tnum_ix {T : Nat → Int32} {L : Nat} {hi : Int32} {i : Nat} (h : ¬ (tnum T L hi i).1 = -1) : nI (ix (tnum T L hi i).1) = (tnum T L hi i).1 := by
  rcases tnum_nn (T := T) (L := L) (hi := hi) (i := i) with z | ⟨v, hv, e, _⟩
  · exact absurd z h
  · rw [e, ixn (by omega)]
theorem mW_lt {T : Nat → Int32} {L : Nat} : ∀ {l : List Int32} {i : Nat}, (∀ a ∈ l, ¬ a = 0) → i ≤ L → l ≠ [] → (mW T L l i).1 = true → i < (mW T L l i).2
  | [], _, _, _, h, _ => absurd rfl h
  | a :: l, i, ha, h, _, hm => by
    rw [mW] at hm ⊢
    by_cases q : ch T L i = a
    · rw [if_pos q]
      have hl : i < L := by
        by_cases z : i < L
        · exact z
        · rw [ch_ge (by omega)] at q
          exact absurd q.symm (ha a List.mem_cons_self)
      have := (mW_le (T := T) (l := l) (i := i + 1) (fun b hb => ha b (List.mem_cons_of_mem _ hb)) hl).1
      omega
    · rw [if_neg q] at hm
      cases hm
theorem wd_nil : ∀ k, k < 6 → wdB.getD k [] ≠ [] := by decide +kernel
theorem tnum_rng {T : Nat → Int32} {L : Nat} {hi i : Nat} (hh : hi < 100) (h : ¬ (tnum T L (nI hi) i).1 = -1) : ix (tnum T L (nI hi) i).1 ≤ hi := by
  rcases tnum_nn (T := T) (L := L) (hi := nI hi) (i := i) with z | ⟨v, hv, e, h2⟩
  · exact absurd z h
  · rw [e, ixn (by omega)]
    exact (nI_leI (by omega) (by omega)).mp h2
theorem PO_ok {T : Nat → Int32} {L i : Nat} (h : i ≤ L) : i ≤ (PO T L i).2.1 ∧ (PO T L i).2.1 ≤ L ∧ ((PO T L i).1 = true → i < (PO T L i).2.1 ∧ (PO T L i).2.2.1 < 6 ∧ (PO T L i).2.2.2.1 < 12 ∧ ((PO T L i).2.2.1 = 4 → (PO T L i).2.2.2.1 < 4) ∧ (PO T L i).2.2.2.2 < 10) := by
  generalize hR : PO T L i = R
  unfold PO at hR
  cases ek : kA (ch T L i) with
  | none =>
    rw [ek] at hR
    subst hR
    exact ⟨Nat.le_refl _, h, fun z => by cases z⟩
  | some k =>
    rw [ek] at hR
    dsimp only at hR
    have hk := kA_lt ek
    have hm := mW_le (T := T) (wd_ne k hk) h
    have hm2 := mW_lt (T := T) (wd_ne k hk) h (wd_nil k hk)
    cases em : mW T L (wdB.getD k []) i with
    | mk b j =>
    rw [em] at hR hm hm2
    dsimp only at hm hm2
    cases b with
    | false =>
      subst hR
      exact ⟨hm.1, hm.2, fun z => by cases z⟩
    | true =>
      dsimp only at hR
      have hij := hm2 rfl
      by_cases k5 : k = 5
      · rw [if_pos k5] at hR
        subst hR
        exact ⟨hm.1, hm.2, fun _ => ⟨hij, (by decide : (5 : Nat) < 6), (by decide : (0 : Nat) < 12), fun z => absurd (show (5 : Nat) = 4 from z) (by decide), (by decide : (0 : Nat) < 10)⟩⟩
      · rw [if_neg k5] at hR
        by_cases k4 : k = 4
        · rw [if_pos k4] at hR
          have t1 := tnum_le (T := T) (hi := 3) hm.2
          have t2 := tnum_rng (T := T) (L := L) (hi := 3) (i := j) (by decide)
          rw [show nI 3 = 3 from rfl] at t2
          cases ex : tnum T L 3 j with
          | mk x p =>
          rw [ex] at hR t1 t2
          dsimp only at hR t1 t2
          by_cases q : x = -1
          · rw [if_pos q] at hR
            subst hR
            exact ⟨by show i ≤ p; omega, t1.2, fun z => by cases z⟩
          · rw [if_neg q, if_neg (by simp [k4])] at hR
            by_cases q3 : ch T L p = 64
            · rw [if_pos q3] at hR
              have hpL : p < L := by
                by_cases z : p < L
                · exact z
                · rw [ch_ge (by omega)] at q3
                  exact absurd q3 (by decide)
              have u1 := tnum_le (T := T) (hi := 9) (L := L) (i := p + 1) (by omega)
              have u2 := tnum_rng (T := T) (L := L) (hi := 9) (i := p + 1) (by decide)
              rw [show nI 9 = 9 from rfl] at u2
              cases ey : tnum T L 9 (p + 1) with
              | mk y p2 =>
              rw [ey] at hR u1 u2
              dsimp only at hR u1 u2
              by_cases q4 : y = -1
              · rw [if_pos q4] at hR
                subst hR
                exact ⟨by show i ≤ p2; omega, u1.2, fun z => by cases z⟩
              · rw [if_neg q4] at hR
                subst hR
                have t3 := t2 q
                have u3 := u2 q4
                exact ⟨by show i ≤ p2; omega, u1.2, fun _ => ⟨by show i < p2; omega, (by decide : (4 : Nat) < 6), by show ix x < 12; omega, fun _ => by show ix x < 4; omega, by show ix y < 10; omega⟩⟩
            · rw [if_neg q3] at hR
              subst hR
              exact ⟨by show i ≤ p; omega, t1.2, fun z => by cases z⟩
        · rw [if_neg k4] at hR
          have t1 := tnum_le (T := T) (hi := 11) hm.2
          have t2 := tnum_rng (T := T) (L := L) (hi := 11) (i := j) (by decide)
          rw [show nI 11 = 11 from rfl] at t2
          cases ex : tnum T L 11 j with
          | mk x p =>
          rw [ex] at hR t1 t2
          dsimp only at hR t1 t2
          by_cases q : x = -1
          · rw [if_pos q] at hR
            subst hR
            exact ⟨by show i ≤ p; omega, t1.2, fun z => by cases z⟩
          · rw [if_neg q, if_pos k4] at hR
            subst hR
            have t3 := t2 q
            exact ⟨by show i ≤ p; omega, t1.2, fun _ => ⟨by show i < p; omega, hk, by show ix x < 12; omega, fun z => absurd z k4, (by decide : (0 : Nat) < 10)⟩⟩
section O6
variable {g : GG} {d : Nat} {c n : Nat} {m : PM} {Q : Ou → PM → Nat → Nat → Prop} {L i : Nat}
theorem co_readOrder {o : Nat} (hl : m.1 8 12 0 1 = nI L) (hL : L ≤ 60) (ha : m.1 8 12 0 2 = nI i) (hiL : i ≤ L) (ho : m.1 8 12 0 3 = nI o) (ho60 : o < 60) (h : ∀ σ, TxF (m.1 8) σ o (PO (m.1 8 13 0) L i).2.1 → ((PO (m.1 8 13 0) L i).1 = true → TxO σ o (PO (m.1 8 13 0) L i).2.2) → Q (.inl (some (pI (if (PO (m.1 8 13 0) L i).1 then 1 else 0)))) (rset m 8 σ) c n) : Wq g (d + 5) MX2_readOrder c n 0 [some (pO 12 8 0)] [] m Q := by
  have hw : ∀ k, k < 6 → (if nI k = 0 then 0 else (if nI k = 1 then 1 else (if nI k = 2 then 2 else (if nI k = 3 then 3 else (if nI k = 4 then 4 else 5))))) = k := by decide
  refine sgX2_readOrder (co_kindAhead hl hL ha hiL ⟨rfl, rfl, ?_⟩)
  generalize hR : PO (m.1 8 13 0) L i = R at h
  unfold PO at hR
  cases ek : kA (ch (m.1 8 13 0) L i) with
  | none =>
    rw [ek] at hR
    dsimp only at hR
    refine ⟨fun _ => ?_, fun q => absurd rfl q⟩
    subst hR
    have := h (m.1 8) ⟨fun _ _ _ _ _ => rfl, rfl, ha, rfl, fun _ _ => ⟨rfl, rfl, rfl⟩⟩ (fun z => by cases z)
    rw [rset_id] at this
    exact this
  | some k =>
    rw [ek] at hR
    dsimp only at hR
    have hk := kA_lt ek
    simp only [oI]
    refine ⟨fun q => absurd q (nI_m1 (by omega)), fun _ => ?_⟩
    rw [hw k hk]
    refine co_takeWord hk hl hL ha hiL ⟨rfl, rfl, ?_⟩
    have hm := mW_le (T := m.1 8 13 0) (wd_ne k hk) hiL
    cases em : mW (m.1 8 13 0) L (wdB.getD k []) i with
    | mk b j =>
    rw [em] at hR hm
    dsimp only at hm
    cases b with
    | false =>
      dsimp only at hR
      dsimp only [cI]
      refine ⟨fun q => absurd rfl q, fun _ => ?_⟩
      subst hR
      exact h _ ⟨fun t h1 _ _ _ => by simp (disch := omega) only [setI_eq, rset_rset, rset_s, rset_2, tI_s, tI_t, tI_j, tI_k], by simp (disch := omega) only [setI_eq, rset_rset, rset_s, rset_2, tI_s, tI_t, tI_j, tI_k], by simp (disch := omega) only [setI_eq, rset_rset, rset_s, rset_2, tI_s, tI_t, tI_j, tI_k], by simp (disch := omega) only [setI_eq, rset_rset, rset_s, rset_2, tI_s, tI_t, tI_j, tI_k], fun j' hj => by simp (disch := omega) only [setI_eq, rset_rset, rset_s, rset_2, tI_s, tI_t, tI_j, tI_k, and_self]⟩ (fun z => by cases z)
    | true =>
      dsimp only at hR
      dsimp only [cI]
      refine ⟨fun _ => ?_, fun q => absurd q (by simp)⟩
      simp (disch := omega) only [ixn, nI_1, nI_add, pk_mul, nI_p0, of0, of1, of2, of3, of4, of5, of6, of7, of8, dv16, dv4, rm4, at_n, pl_n, ce_n, oe_n, oe0, oe1, oe2, ix_0, ix_1, ix_2, ix_3, ix_4, ix_5, ix_6, ix_7, ix_8, setI_eq, rset_rset, rset_s, rset_2, tI_s, tI_t, tI_j, tI_k, ho]
      refine ⟨vp_in_nI ho60 (by decide), ?_⟩
      by_cases k5 : k = 5
      · subst k5
        rw [if_pos rfl] at hR
        refine ⟨fun q => absurd rfl q, fun _ => ?_⟩
        subst hR
        exact h _ ⟨fun t h1 h2 _ _ => by simp (disch := omega) only [setI_eq, rset_rset, rset_s, rset_2, tI_s, tI_t, tI_j, tI_k], by simp (disch := omega) only [setI_eq, rset_rset, rset_s, rset_2, tI_s, tI_t, tI_j, tI_k], by simp (disch := omega) only [setI_eq, rset_rset, rset_s, rset_2, tI_s, tI_t, tI_j, tI_k], by simp (disch := omega) only [setI_eq, rset_rset, rset_s, rset_2, tI_s, tI_t, tI_j, tI_k, ho], fun j' hj => by simp (disch := omega) only [setI_eq, rset_rset, rset_s, rset_2, tI_s, tI_t, tI_j, tI_k, and_self]⟩ (fun _ => ⟨by simp (disch := omega) only [setI_eq, rset_rset, rset_s, rset_2, tI_s, tI_t, tI_j, tI_k], fun z => absurd rfl z, fun z => absurd (show (5 : Nat) = 4 from z) (by decide)⟩)
      · rw [if_neg k5] at hR
        refine ⟨fun _ => ?_, fun q => absurd (nI_i (b := 5) (by omega) (by decide) q) k5⟩
        by_cases k4 : k = 4
        · subst k4
          refine ⟨fun q => absurd rfl q, fun _ => ?_⟩
          rw [if_pos rfl] at hR
          refine co_takeNumber (L := L) (i := j) (by simp (disch := omega) only [ixn, nI_1, nI_add, pk_mul, nI_p0, of0, of1, of2, of3, of4, of5, of6, of7, of8, dv16, dv4, rm4, at_n, pl_n, ce_n, oe_n, oe0, oe1, oe2, ix_0, ix_1, ix_2, ix_3, ix_4, ix_5, ix_6, ix_7, ix_8, setI_eq, rset_rset, rset_s, rset_2, tI_s, tI_t, tI_j, tI_k, hl]) hL (by simp (disch := omega) only [ixn, nI_1, nI_add, pk_mul, nI_p0, of0, of1, of2, of3, of4, of5, of6, of7, of8, dv16, dv4, rm4, at_n, pl_n, ce_n, oe_n, oe0, oe1, oe2, ix_0, ix_1, ix_2, ix_3, ix_4, ix_5, ix_6, ix_7, ix_8, setI_eq, rset_rset, rset_s, rset_2, tI_s, tI_t, tI_j, tI_k]) hm.2 ⟨rfl, rfl, ?_⟩
          have t1 := tnum_le (T := m.1 8 13 0) (hi := 3) hm.2
          have t2 := tnum_ix (T := m.1 8 13 0) (L := L) (hi := 3) (i := j)
          dsimp only [cI]
          simp (disch := omega) only [ixn, nI_1, nI_add, pk_mul, nI_p0, of0, of1, of2, of3, of4, of5, of6, of7, of8, dv16, dv4, rm4, at_n, pl_n, ce_n, oe_n, oe0, oe1, oe2, ix_0, ix_1, ix_2, ix_3, ix_4, ix_5, ix_6, ix_7, ix_8, setI_eq, rset_rset, rset_s, rset_2, tI_s, tI_t, tI_j, tI_k, ho]
          cases ex : tnum (m.1 8 13 0) L 3 j with
          | mk x p =>
          rw [ex] at hR t1 t2
          dsimp only at hR t1 t2 ⊢
          refine ⟨vp_in_nI ho60 (by decide), vp_in_nI ho60 (by decide), fun q => ?_, fun q => ?_⟩
          · rw [if_pos q] at hR
            refine ⟨vp_in_nI ho60 (by decide), fun _ => ?_, fun q2 => absurd q q2⟩
            subst hR
            exact h _ ⟨fun t h1 h2 h3 _ => by simp (disch := omega) only [setI_eq, rset_rset, rset_s, rset_2, tI_s, tI_t, tI_j, tI_k], by simp (disch := omega) only [setI_eq, rset_rset, rset_s, rset_2, tI_s, tI_t, tI_j, tI_k], by simp (disch := omega) only [setI_eq, rset_rset, rset_s, rset_2, tI_s, tI_t, tI_j, tI_k], by simp (disch := omega) only [setI_eq, rset_rset, rset_s, rset_2, tI_s, tI_t, tI_j, tI_k], fun j' hj => by simp (disch := omega) only [setI_eq, rset_rset, rset_s, rset_2, tI_s, tI_t, tI_j, tI_k, and_self]⟩ (fun z => by cases z)
          · rw [if_neg q, if_neg (by simp)] at hR
            refine ⟨fun _ => ⟨fun q2 => ?_, fun q2 => ?_⟩, fun q2 => absurd rfl q2⟩
            · rw [hl, nI_leI (by omega) (by omega)] at q2
              rw [ch_ge q2, if_neg (by decide)] at hR
              subst hR
              exact h _ ⟨fun t h1 h2 h3 _ => by simp (disch := omega) only [setI_eq, rset_rset, rset_s, rset_2, tI_s, tI_t, tI_j, tI_k], by simp (disch := omega) only [setI_eq, rset_rset, rset_s, rset_2, tI_s, tI_t, tI_j, tI_k], by simp (disch := omega) only [setI_eq, rset_rset, rset_s, rset_2, tI_s, tI_t, tI_j, tI_k], by simp (disch := omega) only [setI_eq, rset_rset, rset_s, rset_2, tI_s, tI_t, tI_j, tI_k], fun j' hj => by simp (disch := omega) only [setI_eq, rset_rset, rset_s, rset_2, tI_s, tI_t, tI_j, tI_k, and_self]⟩ (fun z => by cases z)
            · rw [hl, nI_leI (by omega) (by omega)] at q2
              rw [ch_lt (by omega)] at hR
              refine ⟨vp_in_nI (by omega) (by decide), fun q3 => ?_, fun q3 => ?_⟩
              · rw [if_pos q3] at hR
                refine co_takeNumber (L := L) (i := p + 1) (by simp (disch := omega) only [ixn, nI_1, nI_add, pk_mul, nI_p0, of0, of1, of2, of3, of4, of5, of6, of7, of8, dv16, dv4, rm4, at_n, pl_n, ce_n, oe_n, oe0, oe1, oe2, ix_0, ix_1, ix_2, ix_3, ix_4, ix_5, ix_6, ix_7, ix_8, setI_eq, rset_rset, rset_s, rset_2, tI_s, tI_t, tI_j, tI_k, hl]) hL (by simp (disch := omega) only [ixn, nI_1, nI_add, pk_mul, nI_p0, of0, of1, of2, of3, of4, of5, of6, of7, of8, dv16, dv4, rm4, at_n, pl_n, ce_n, oe_n, oe0, oe1, oe2, ix_0, ix_1, ix_2, ix_3, ix_4, ix_5, ix_6, ix_7, ix_8, setI_eq, rset_rset, rset_s, rset_2, tI_s, tI_t, tI_j, tI_k]) (by omega) ⟨rfl, rfl, ?_⟩
                have u1 := tnum_le (T := m.1 8 13 0) (hi := 9) (L := L) (i := p + 1) (by omega)
                have u2 := tnum_ix (T := m.1 8 13 0) (L := L) (hi := 9) (i := p + 1)
                dsimp only [cI]
                simp (disch := omega) only [ixn, nI_1, nI_add, pk_mul, nI_p0, of0, of1, of2, of3, of4, of5, of6, of7, of8, dv16, dv4, rm4, at_n, pl_n, ce_n, oe_n, oe0, oe1, oe2, ix_0, ix_1, ix_2, ix_3, ix_4, ix_5, ix_6, ix_7, ix_8, setI_eq, rset_rset, rset_s, rset_2, tI_s, tI_t, tI_j, tI_k, ho]
                cases ey : tnum (m.1 8 13 0) L 9 (p + 1) with
                | mk y p2 =>
                rw [ey] at hR u1 u2
                dsimp only at hR u1 u2 ⊢
                refine ⟨vp_in_nI ho60 (by decide), vp_in_nI ho60 (by decide), fun q4 => ?_, fun q4 => ?_⟩
                · rw [if_pos q4] at hR
                  subst hR
                  exact h _ ⟨fun t h1 h2 h3 h4 => by simp (disch := omega) only [setI_eq, rset_rset, rset_s, rset_2, tI_s, tI_t, tI_j, tI_k], by simp (disch := omega) only [setI_eq, rset_rset, rset_s, rset_2, tI_s, tI_t, tI_j, tI_k], by simp (disch := omega) only [setI_eq, rset_rset, rset_s, rset_2, tI_s, tI_t, tI_j, tI_k], by simp (disch := omega) only [setI_eq, rset_rset, rset_s, rset_2, tI_s, tI_t, tI_j, tI_k], fun j' hj => by simp (disch := omega) only [setI_eq, rset_rset, rset_s, rset_2, tI_s, tI_t, tI_j, tI_k, and_self]⟩ (fun z => by cases z)
                · rw [if_neg q4] at hR
                  subst hR
                  exact h _ ⟨fun t h1 h2 h3 h4 => by simp (disch := omega) only [setI_eq, rset_rset, rset_s, rset_2, tI_s, tI_t, tI_j, tI_k], by simp (disch := omega) only [setI_eq, rset_rset, rset_s, rset_2, tI_s, tI_t, tI_j, tI_k], by simp (disch := omega) only [setI_eq, rset_rset, rset_s, rset_2, tI_s, tI_t, tI_j, tI_k], by simp (disch := omega) only [setI_eq, rset_rset, rset_s, rset_2, tI_s, tI_t, tI_j, tI_k], fun j' hj => by simp (disch := omega) only [setI_eq, rset_rset, rset_s, rset_2, tI_s, tI_t, tI_j, tI_k, and_self]⟩ (fun _ => ⟨by simp (disch := omega) only [setI_eq, rset_rset, rset_s, rset_2, tI_s, tI_t, tI_j, tI_k], fun _ => by simp (disch := omega) only [setI_eq, rset_rset, rset_s, rset_2, tI_s, tI_t, tI_j, tI_k, t2 q], fun _ => by simp (disch := omega) only [setI_eq, rset_rset, rset_s, rset_2, tI_s, tI_t, tI_j, tI_k, u2 q4]⟩)
              · rw [if_neg q3] at hR
                subst hR
                exact h _ ⟨fun t h1 h2 h3 _ => by simp (disch := omega) only [setI_eq, rset_rset, rset_s, rset_2, tI_s, tI_t, tI_j, tI_k], by simp (disch := omega) only [setI_eq, rset_rset, rset_s, rset_2, tI_s, tI_t, tI_j, tI_k], by simp (disch := omega) only [setI_eq, rset_rset, rset_s, rset_2, tI_s, tI_t, tI_j, tI_k], by simp (disch := omega) only [setI_eq, rset_rset, rset_s, rset_2, tI_s, tI_t, tI_j, tI_k], fun j' hj => by simp (disch := omega) only [setI_eq, rset_rset, rset_s, rset_2, tI_s, tI_t, tI_j, tI_k, and_self]⟩ (fun z => by cases z)
        · refine ⟨fun _ => ?_, fun q => absurd (nI_i (b := 4) (by omega) (by decide) q) k4⟩
          rw [if_neg k4] at hR
          refine co_takeNumber (L := L) (i := j) (by simp (disch := omega) only [ixn, nI_1, nI_add, pk_mul, nI_p0, of0, of1, of2, of3, of4, of5, of6, of7, of8, dv16, dv4, rm4, at_n, pl_n, ce_n, oe_n, oe0, oe1, oe2, ix_0, ix_1, ix_2, ix_3, ix_4, ix_5, ix_6, ix_7, ix_8, setI_eq, rset_rset, rset_s, rset_2, tI_s, tI_t, tI_j, tI_k, hl]) hL (by simp (disch := omega) only [ixn, nI_1, nI_add, pk_mul, nI_p0, of0, of1, of2, of3, of4, of5, of6, of7, of8, dv16, dv4, rm4, at_n, pl_n, ce_n, oe_n, oe0, oe1, oe2, ix_0, ix_1, ix_2, ix_3, ix_4, ix_5, ix_6, ix_7, ix_8, setI_eq, rset_rset, rset_s, rset_2, tI_s, tI_t, tI_j, tI_k]) hm.2 ⟨rfl, rfl, ?_⟩
          have t1 := tnum_le (T := m.1 8 13 0) (hi := 11) hm.2
          have t2 := tnum_ix (T := m.1 8 13 0) (L := L) (hi := 11) (i := j)
          dsimp only [cI]
          simp (disch := omega) only [ixn, nI_1, nI_add, pk_mul, nI_p0, of0, of1, of2, of3, of4, of5, of6, of7, of8, dv16, dv4, rm4, at_n, pl_n, ce_n, oe_n, oe0, oe1, oe2, ix_0, ix_1, ix_2, ix_3, ix_4, ix_5, ix_6, ix_7, ix_8, setI_eq, rset_rset, rset_s, rset_2, tI_s, tI_t, tI_j, tI_k, ho]
          cases ex : tnum (m.1 8 13 0) L 11 j with
          | mk x p =>
          rw [ex] at hR t1 t2
          dsimp only at hR t1 t2 ⊢
          refine ⟨vp_in_nI ho60 (by decide), vp_in_nI ho60 (by decide), fun q => ?_, fun q => ?_⟩
          · rw [if_pos q] at hR
            refine ⟨vp_in_nI ho60 (by decide), fun _ => ?_, fun q2 => absurd q q2⟩
            subst hR
            exact h _ ⟨fun t h1 h2 h3 _ => by simp (disch := omega) only [setI_eq, rset_rset, rset_s, rset_2, tI_s, tI_t, tI_j, tI_k], by simp (disch := omega) only [setI_eq, rset_rset, rset_s, rset_2, tI_s, tI_t, tI_j, tI_k], by simp (disch := omega) only [setI_eq, rset_rset, rset_s, rset_2, tI_s, tI_t, tI_j, tI_k], by simp (disch := omega) only [setI_eq, rset_rset, rset_s, rset_2, tI_s, tI_t, tI_j, tI_k], fun j' hj => by simp (disch := omega) only [setI_eq, rset_rset, rset_s, rset_2, tI_s, tI_t, tI_j, tI_k, and_self]⟩ (fun z => by cases z)
          · rw [if_neg q, if_pos k4] at hR
            refine ⟨fun q2 => absurd (nI_i (b := 4) (by omega) (by decide) q2) k4, fun _ => ⟨vp_in_nI ho60 (by decide), fun q2 => absurd q2 q, fun _ => ?_⟩⟩
            subst hR
            exact h _ ⟨fun t h1 h2 h3 _ => by simp (disch := omega) only [setI_eq, rset_rset, rset_s, rset_2, tI_s, tI_t, tI_j, tI_k], by simp (disch := omega) only [setI_eq, rset_rset, rset_s, rset_2, tI_s, tI_t, tI_j, tI_k], by simp (disch := omega) only [setI_eq, rset_rset, rset_s, rset_2, tI_s, tI_t, tI_j, tI_k], by simp (disch := omega) only [setI_eq, rset_rset, rset_s, rset_2, tI_s, tI_t, tI_j, tI_k], fun j' hj => by simp (disch := omega) only [setI_eq, rset_rset, rset_s, rset_2, tI_s, tI_t, tI_j, tI_k, and_self]⟩ (fun _ => ⟨by simp (disch := omega) only [setI_eq, rset_rset, rset_s, rset_2, tI_s, tI_t, tI_j, tI_k], fun _ => by simp (disch := omega) only [setI_eq, rset_rset, rset_s, rset_2, tI_s, tI_t, tI_j, tI_k, t2 q], fun z => absurd z k4⟩)
theorem co_read_10 {τ0 : Nat → Nat → Nat → Int32} {T : Nat → Int32} (hL : L ≤ 60) : ∀ (f i : Nat) (τ : Nat → Nat → Nat → Int32) (pre : List (Nat × Nat × Nat)), pre.length + f = 60 → i ≤ L → τ 13 0 = T → τ 12 0 1 = nI L → τ 12 0 2 = nI i → τ 12 0 3 = nI pre.length → (∀ t, t ≠ 12 → t ≠ 14 → t ≠ 15 → t ≠ 16 → τ t = τ0 t) → (∀ q, q < pre.length → TxO τ q (pre.getD q (0, 0, 0))) → (∀ σ, (∀ t, t ≠ 12 → t ≠ 14 → t ≠ 15 → t ≠ 16 → σ t = τ0 t) → σ 12 0 1 = nI L → σ 12 0 2 = nI (PR T L f i).2.1 → ((PR T L f i).1 = true → σ 12 0 3 = nI (pre ++ (PR T L f i).2.2).length ∧ ∀ q, q < (pre ++ (PR T L f i).2.2).length → TxO σ q ((pre ++ (PR T L f i).2.2).getD q (0, 0, 0))) → Q (.inl (some (pI (if (PR T L f i).1 then 1 else 0)))) (rset m 8 σ) c n) → Wq g (d + 6) MX2_read c n 10 [some (pO 12 8 0)] [] (rset m 8 τ) Q := by
  intro f
  induction f with
  | zero =>
    intro i τ pre hf hi hT h1 h2 h3 hfr hpre h
    refine sgX2_read_10 ⟨fun _ => ?_, fun q => absurd (by rw [rset_s, h3]; exact geL (N := 60) (by omega) (by omega)) q⟩
    exact h τ hfr h1 h2 (fun z => by cases z)
  | succ f ih =>
    intro i τ pre hf hi hT h1 h2 h3 hfr hpre h
    refine sgX2_read_10 ⟨fun q => absurd (by rw [rset_s, h3] at q; exact q) (ngeL (N := 60) (by omega) (by decide)), fun _ => ?_⟩
    refine co_readOrder (L := L) (i := i) (o := pre.length) (by rw [rset_s]; exact h1) hL (by rw [rset_s]; exact h2) hi (by rw [rset_s]; exact h3) (by omega) (fun σ hF hO => ⟨rfl, rfl, ?_⟩)
    rw [rset_s, hT] at hF hO
    rw [rset_s, hT, rset_rset]
    generalize hR : PR T L (f + 1) i = R at h
    rw [PR] at hR
    obtain ⟨f1, f2, f3, f4, f5⟩ := hF
    have hj := PO_ok (T := T) hi
    cases eo : PO T L i with
    | mk b jo =>
    obtain ⟨j, o⟩ := jo
    rw [eo] at hR hO f3 hj
    dsimp only at hO f3 hj
    cases b with
    | false =>
      dsimp only at hR
      dsimp only [cI]
      refine ⟨fun q => absurd rfl q, fun _ => ?_⟩
      subst hR
      exact h σ (fun t a b c d => (f1 t a b c d).trans (hfr t a b c d)) (f2.trans h1) f3 (fun z => by cases z)
    | true =>
      dsimp only at hR
      dsimp only [cI]
      refine ⟨fun _ => ?_, fun q => absurd q (by simp)⟩
      simp (disch := omega) only [ixn, nI_1, nI_add, pk_mul, nI_p0, of0, of1, of2, of3, of4, of5, of6, of7, of8, dv16, dv4, rm4, at_n, pl_n, ce_n, oe_n, oe0, oe1, oe2, ix_0, ix_1, ix_2, ix_3, ix_4, ix_5, ix_6, ix_7, ix_8, setI_eq, rset_rset, rset_s, rset_2, tI_s, tI_t, tI_j, tI_k, f4, f3, f2, h1, h3]
      have hO := hO rfl
      have hap : (pre ++ [o]).length = pre.length + 1 := by simp
      have hno : ∀ q, q < (pre ++ [o]).length → TxO (tI σ 12 0 3 (nI (pre.length + 1))) q ((pre ++ [o]).getD q (0, 0, 0)) := fun q hq => by
        unfold TxO
        simp (disch := omega) only [setI_eq, rset_rset, rset_s, rset_2, tI_s, tI_t, tI_j, tI_k]
        by_cases e : q = pre.length
        · subst e
          rw [show (pre ++ [o]).getD pre.length (0, 0, 0) = o by simp [List.getD]]
          exact hO
        · have hq2 : q < pre.length := by omega
          rw [show (pre ++ [o]).getD q (0, 0, 0) = pre.getD q (0, 0, 0) by simp [List.getD, List.getElem?_append_left hq2]]
          obtain ⟨a, b, c⟩ := f5 q e
          rw [a, b, c]
          exact hpre q hq2
      refine ⟨fun q => ?_, fun q => ?_⟩
      · rw [nI_ltI (by omega) (by omega)] at q
        rw [if_neg (by omega)] at hR
        refine ⟨fun q2 => absurd ((nI_leI (by omega) (by omega)).mp q2) (by omega), fun _ => ⟨vp_in_nI (by omega) (by decide), fun q3 => ?_, fun q3 => ?_⟩⟩
        · rw [f1 13 (by decide) (by decide) (by decide) (by decide), hT] at q3
          rw [if_pos (by rw [ch_lt q]; exact q3)] at hR
          refine ih (j + 1) _ (pre ++ [o]) (by omega) (by omega) ?_ ?_ ?_ ?_ ?_ ?_ (fun σ' a1 a2 a3 a4 => ?_)
          · simp (disch := omega) only [setI_eq, rset_rset, rset_s, rset_2, tI_s, tI_t, tI_j, tI_k, f1 13 (by decide) (by decide) (by decide) (by decide), hT]
          · simp (disch := omega) only [setI_eq, rset_rset, rset_s, rset_2, tI_s, tI_t, tI_j, tI_k, f2, h1]
          · simp (disch := omega) only [setI_eq, rset_rset, rset_s, rset_2, tI_s, tI_t, tI_j, tI_k]
          · simp (disch := omega) only [setI_eq, rset_rset, rset_s, rset_2, tI_s, tI_t, tI_j, tI_k, hap]
          · intro t a b c d
            simp (disch := omega) only [setI_eq, rset_rset, rset_s, rset_2, tI_s, tI_t, tI_j, tI_k]
            exact (f1 t a b c d).trans (hfr t a b c d)
          · intro q hq
            have := hno q hq
            unfold TxO at this ⊢
            simp (disch := omega) only [tI_t] at this ⊢
            exact this
          · rw [List.append_assoc] at a4
            subst hR
            exact h σ' a1 a2 a3 a4
        · rw [f1 13 (by decide) (by decide) (by decide) (by decide), hT] at q3
          rw [if_neg (by rw [ch_lt q]; exact q3)] at hR
          subst hR
          exact h _ (fun t a b c d => by rw [tI_t a]; exact (f1 t a b c d).trans (hfr t a b c d)) (by simp (disch := omega) only [setI_eq, rset_rset, rset_s, rset_2, tI_s, tI_t, tI_j, tI_k, f2, h1]) (by simp (disch := omega) only [setI_eq, rset_rset, rset_s, rset_2, tI_s, tI_t, tI_j, tI_k, f3]) (fun z => by cases z)
      · rw [nI_ltI (by omega) (by omega)] at q
        rw [if_pos (by omega)] at hR
        subst hR
        exact h _ (fun t a b c d => by rw [tI_t a]; exact (f1 t a b c d).trans (hfr t a b c d)) (by simp (disch := omega) only [setI_eq, rset_rset, rset_s, rset_2, tI_s, tI_t, tI_j, tI_k, f2, h1]) (by simp (disch := omega) only [setI_eq, rset_rset, rset_s, rset_2, tI_s, tI_t, tI_j, tI_k, f3]) (fun _ => ⟨by simp (disch := omega) only [setI_eq, rset_rset, rset_s, rset_2, tI_s, tI_t, tI_j, tI_k, hap], hno⟩)
end O6
