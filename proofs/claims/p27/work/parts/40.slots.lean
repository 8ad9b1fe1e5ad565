/-! TESTSLOTS: the saved states -/
def sv (m : PM) (i : Nat) : Nat → Nat → Nat → Int32 := m.1 (ix (m.1 8 11 0 i))
/-- the row of saves tells six different offices -/
def RF (m : PM) : Prop := (∀ i, i < 6 → 2 ≤ ix (m.1 8 11 0 i) ∧ ix (m.1 8 11 0 i) < 8) ∧ ∀ i, i < 6 → ∀ j, j < 6 → ix (m.1 8 11 0 i) = ix (m.1 8 11 0 j) → i = j
/-- what saving does; S states were saved -/
def SvE (S : Nat) (m m1 : PM) : Prop := RF m1 ∧ (∀ r, r < 2 ∨ 9 ≤ r → m1.1 r = m.1 r) ∧ (∀ t, t ≠ 10 → t ≠ 11 → m1.1 8 t = m.1 8 t) ∧ m1.2 = m.2 ∧ m1.1 8 10 0 3 = nI (min (S + 1) 6) ∧ (S < 6 → (∀ i, i < S → sv m1 i = sv m i) ∧ Cp (sv m1 S) (m.1 0)) ∧ (S = 6 → (∀ i, i < 5 → sv m1 i = sv m (i + 1)) ∧ Cp (sv m1 5) (m.1 0))
section O7
variable {g : GG} {d : Nat} {c n : Nat} {m : PM} {Q : Ou → PM → Nat → Nat → Prop} {S : Nat}
theorem co_dropOldestSave (hR : RF m) (h : ∀ m1, m1.1 8 10 0 3 = 5 → (∀ r, r ≠ 8 → m1.1 r = m.1 r) → m1.2 = m.2 → (∀ t, t ≠ 10 → t ≠ 11 → m1.1 8 t = m.1 8 t) → (∀ i, i < 5 → m1.1 8 11 0 i = m.1 8 11 0 (i + 1)) → m1.1 8 11 0 5 = m.1 8 11 0 0 → Q (.inl none) m1 c n) : Wq g d MX4_dropOldestSave c n 0 [some (pO 10 8 0)] [] m Q := by
  have nn : ∀ i, i < 6 → nI (ix (m.1 8 11 0 i)) = m.1 8 11 0 i := fun i hi => by
    have h2 := (hR.1 i hi).1
    have h3 : ¬ m.1 8 11 0 i < 0 := fun z => by
      have z' := Int32.lt_iff_toInt_lt.mp z
      have : (m.1 8 11 0 i).toInt.toNat = ix (m.1 8 11 0 i) := rfl
      rw [show (0 : Int32).toInt = 0 by decide] at z'
      omega
    obtain ⟨j, hj, e⟩ := nI_of h3
    rw [e, ixn hj]
  refine sgX4_dropOldestSave ⟨by rw [ix_0]; exact (hR.1 0 (by decide)).2, ?_⟩
  rw [ix_0]
  have key := Wq.up (g := g) (d := d) (M := MX4_dropOldestSave) (c := c) (n := n) (pc := 9) (Q := Q) (S := Nat → Nat → Nat → Int32) 5 (fun k _ => [some (pO 10 8 0), some (pO 0 (ix (m.1 8 11 0 0)) 0), some (pI (nI (k + 1)))]) (fun _ σ => rset m 8 σ) (fun k σ => (∀ t, t ≠ 11 → σ t = m.1 8 t) ∧ (∀ i, i < k → σ 11 0 i = m.1 8 11 0 (i + 1)) ∧ ∀ i, k ≤ i → σ 11 0 i = m.1 8 11 0 i) (fun σ hI => ?_) (fun k σ hk hI ih => ?_) 0 (m.1 8) (by omega) ⟨fun _ _ => rfl, fun i hi => by omega, fun _ _ => rfl⟩
  · rw [rset_id] at key
    exact key
  · obtain ⟨a, b, e⟩ := hI
    refine sgX4_dropOldestSave_9 ⟨fun _ => ⟨show vp_in (nI 5) 6 from vp_in_nI (by decide) (by decide), ?_⟩, fun q => absurd (by decide) q⟩
    rw [nn 0 (by decide), show ix ((6 : Int32) - 1) = 5 by decide, show (6 : Int32) - 1 = 5 by decide]
    simp (disch := omega) only [ixn, nI_1, nI_add, pk_mul, nI_p0, of0, of1, of2, of3, of4, of5, of6, of7, of8, dv16, dv4, rm4, at_n, pl_n, ce_n, oe_n, oe0, oe1, oe2, ix_0, ix_1, ix_2, ix_3, ix_4, ix_5, ix_6, ix_7, ix_8, setI_eq, rset_rset, rset_s, rset_2, tI_s, tI_t, tI_j, tI_k]
    refine h _ (by simp (disch := omega) only [setI_eq, rset_rset, rset_s, rset_2, tI_s, tI_t, tI_j, tI_k, rset_s]) (fun r hr => by rw [rset_n hr]) rfl (fun t h1 h2 => by rw [rset_s, tI_t h1, tI_t h2]; exact a t h2) (fun i hi => ?_) ?_
    · rw [rset_s, tI_t (by decide), tI_k (by omega)]
      exact b i hi
    · rw [rset_s, tI_t (by decide), tI_s]
  · obtain ⟨a, b, e⟩ := hI
    have hv := hR.1 (k + 1) (by omega)
    have e1 : nI (k + 1) - 1 = nI k := nI_pred k
    refine sgX4_dropOldestSave_9 ⟨fun q => absurd q (ngeL (N := 6) (by omega) (by decide)), fun _ => ⟨vp_in_nI (by omega) (by decide), ?_⟩⟩
    simp (disch := omega) only [ixn, nI_1, nI_add, pk_mul, nI_p0, of0, of1, of2, of3, of4, of5, of6, of7, of8, dv16, dv4, rm4, at_n, pl_n, ce_n, oe_n, oe0, oe1, oe2, ix_0, ix_1, ix_2, ix_3, ix_4, ix_5, ix_6, ix_7, ix_8, setI_eq, rset_rset, rset_s, rset_2, tI_s, tI_t, tI_j, tI_k]
    rw [e (k + 1) (by omega), e1, ixn (by omega), nn (k + 1) (by omega)]
    refine ⟨hv.2, vp_in_nI (by omega) (by decide), ih _ ⟨fun t ht => by rw [tI_t ht]; exact a t ht, fun i hi => ?_, fun i hi => ?_⟩⟩
    · by_cases z : i = k
      · subst z; rw [tI_s]
      · rw [tI_k z]; exact b i (by omega)
    · rw [tI_k (by omega)]; exact e i (by omega)
theorem co_save (hR : RF m) (hS : m.1 8 10 0 3 = nI S) (hS6 : S ≤ 6) (h : ∀ m1, SvE S m m1 → Q (.inl none) m1 c n) : Wq g (d + 3) MX4_save c n 0 [some (pO 10 8 0)] [] m Q := by
  -- into the office at place i
  have put : ∀ (m0 : PM) (i : Nat), RF m0 → i < 6 → m0.1 8 10 0 3 = nI i → (∀ m1, RF m1 → (∀ r, r < 2 ∨ 9 ≤ r → m1.1 r = m0.1 r) → (∀ t, t ≠ 10 → m1.1 8 t = m0.1 8 t) → m1.2 = m0.2 → m1.1 8 10 0 3 = nI (i + 1) → (∀ j, j < 6 → j ≠ i → sv m1 j = sv m0 j) → Cp (sv m1 i) (m0.1 0) → Q (.inl none) m1 c n) → vp_in (m0.1 8 10 0 3) 6 ∧ ((ix (m0.1 8 11 0 (ix (m0.1 8 10 0 3)))) < 8 ∧ Wp g (d + 2) MX1_copyFrom 0 [some (pO 0 (ix (m0.1 8 11 0 (ix (m0.1 8 10 0 3)))) 0), some (pO 0 0 0)] [] m0 (cV fun m3 => Q (.inl none) (setI m3 10 8 0 3 ((m3.1 8 10 0 3) + 1)) c n)) := by
    intro m0 i hR0 hi h3 hq
    rw [h3, ixn (by omega)]
    obtain ⟨r2, r8⟩ := hR0.1 i hi
    refine ⟨vp_in_nI hi (by decide), r8, ?_⟩
    refine co_copyFrom (by omega) fun τ' hC => ⟨rfl, rfl, ?_⟩
    generalize hr : ix (m0.1 8 11 0 i) = r at *
    have e8 : ∀ x, (rset m0 r x).1 8 = m0.1 8 := fun x => rset_n (by omega)
    dsimp only [cV]
    rw [setI_eq, e8, h3, nI_1]
    have g8 : ∀ x, (rset (rset m0 r τ') 8 x).1 8 = x := fun x => rset_s
    have gr : ∀ x r', r' ≠ 8 → r' ≠ r → (rset (rset m0 r τ') 8 x).1 r' = m0.1 r' := fun x r' a b => by rw [rset_n a, rset_n b]
    have grr : ∀ x, (rset (rset m0 r τ') 8 x).1 r = τ' := fun x => by rw [rset_n (by omega), rset_s]
    have e11 : ∀ j, (rset (rset m0 r τ') 8 (tI (m0.1 8) 10 0 3 (nI (i + 1)))).1 8 11 0 j = m0.1 8 11 0 j := fun j => by rw [g8, tI_t (by decide)]
    refine hq _ ⟨fun j hj => by rw [e11]; exact hR0.1 j hj, fun j hj k hk e => hR0.2 j hj k hk (by rw [e11, e11] at e; exact e)⟩ (fun r' hr' => gr _ r' (by omega) (by omega)) (fun t ht => by rw [g8, tI_t ht]) rfl (by rw [g8, tI_s]) (fun j hj hji => ?_) ?_
    · unfold sv
      rw [e11]
      have hne : ix (m0.1 8 11 0 j) ≠ r := fun z => hji (hR0.2 j hj i hi (z.trans hr.symm))
      have := hR0.1 j hj
      exact gr _ _ (by omega) hne
    · unfold sv
      rw [e11, hr, grr]
      exact hC
  refine sgX4_save ⟨fun q => ?_, fun q => ?_⟩
  · have hS5 : S < 6 := by
      rw [hS, show (6 : Int32) = nI 6 from rfl, nI_ltI (by omega) (by decide)] at q
      exact q
    refine put m S hR hS5 hS (fun m1 a1 a2 a3 a4 a5 a6 a7 => h m1 ⟨a1, a2, fun t h1 _ => a3 t h1, a4, ?_, fun _ => ⟨fun i hi => a6 i (by omega) (by omega), a7⟩, fun z => by omega⟩)
    rw [a5, show min (S + 1) 6 = S + 1 by omega]
  · have hS5 : S = 6 := by
      rw [hS, show (6 : Int32) = nI 6 from rfl, nI_ltI (by omega) (by decide)] at q
      omega
    subst hS5
    refine co_dropOldestSave hR fun m5 b1 b2 b3 b4 b5 b6 => ⟨rfl, rfl, ?_⟩
    dsimp only [cV]
    have hR5 : RF m5 := by
      have im : ∀ i, i < 6 → ∃ j, j < 6 ∧ m5.1 8 11 0 i = m.1 8 11 0 j ∧ j = if i = 5 then 0 else i + 1 := fun i hi => by
        by_cases z : i = 5
        · subst z; exact ⟨0, by decide, b6, rfl⟩
        · exact ⟨i + 1, by omega, b5 i (by omega), by rw [if_neg z]⟩
      refine ⟨fun i hi => ?_, fun i hi j hj e => ?_⟩
      · obtain ⟨k, hk, e, _⟩ := im i hi
        rw [e]; exact hR.1 k hk
      · obtain ⟨k, hk, e1, e2⟩ := im i hi
        obtain ⟨l, hl, e3, e4⟩ := im j hj
        rw [e1, e3] at e
        have := hR.2 k hk l hl e
        split at e2 <;> split at e4 <;> omega
    refine put m5 5 hR5 (by decide) b1 (fun m1 a1 a2 a3 a4 a5 a6 a7 => h m1 ⟨a1, fun r hr => (a2 r hr).trans (b2 r (by omega)), fun t h1 h2 => (a3 t h1).trans (b4 t h1 h2), a4.trans b3, a5, fun z => by omega, fun _ => ⟨fun i hi => ?_, ?_⟩⟩)
    · rw [a6 i (by omega) (by omega)]
      unfold sv
      rw [b5 i hi, b2 _ (by have := hR.1 (i + 1) (by omega); omega)]
    · rw [b2 0 (by decide)] at a7
      exact a7
end O7
