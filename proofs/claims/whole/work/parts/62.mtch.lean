/-! WHO COULD HAVE A SLOT: matchings and covers -/
def gCan (τ : Nat → Nat → Nat → Int32) (D p i : Nat) : Bool := cCan τ p (16 * D + i)
def gEl (τ : Nat → Nat → Nat → Int32) (p : Nat) : Bool := decide (τ 4 p 0 = 0) || decide (τ 4 p 0 = 1)
def Mt (τ : Nat → Nat → Nat → Int32) (D P : Nat) (h mn : Nat → Int32) : Prop :=
  (∀ i, i < 16 → h i = -1 ∨ ∃ p, p < P ∧ h i = nI p ∧ mn p = nI i ∧ gCan τ D p i = true ∧ gEl τ p = true) ∧ (∀ p, p < P → mn p = -1 ∨ ∃ i, i < 16 ∧ mn p = nI i ∧ h i = nI p)
def mC (mn : Nat → Int32) (P : Nat) : Nat := cN (fun p => !decide (mn p = -1)) P
theorem cN_split {W A : Nat → Bool} : ∀ {n : Nat}, cN W n = cN (fun p => W p && A p) n + cN (fun p => W p && !A p) n
  | 0 => rfl
  | n + 1 => by
    rw [cN, cN, cN, cN_split (n := n) (A := A)]
    cases W n <;> cases A n <;> simp <;> omega
theorem cOut_iff {τ : Nat → Nat → Nat → Int32} {E p G : Nat} : cOut τ E p G = true ↔ ∃ e, e < E ∧ G.testBit e = false ∧ cMeet τ p e = true := by
  unfold cOut
  cases e : fnd (fun e => !G.testBit e && cMeet τ p e) E 0 with
  | none =>
    have := fnd_none.mp e
    refine ⟨fun z => absurd z (by decide), fun ⟨f, hf, a, b⟩ => ?_⟩
    have := this f (by omega) (by omega)
    rw [a, b] at this
    exact absurd this (by decide)
  | some f =>
    obtain ⟨_, h2, h3, _⟩ := fnd_some e
    rw [Bool.and_eq_true] at h3
    exact ⟨fun _ => ⟨f, by omega, by simpa using h3.1, h3.2⟩, fun _ => rfl⟩
theorem can_parts {τ : Nat → Nat → Nat → Int32} {D p i : Nat} (hi : i < 16) : gCan τ D p i = true ↔ τ 2 0 (16 * D + i) = -1 ∧ cCome τ p D = true ∧ cMeet τ p (i % 4) = true := by
  unfold gCan cCan
  rw [Bool.and_eq_true, Bool.and_eq_true, decide_eq_true_eq, show (16 * D + i) / 16 = D by omega, show (16 * D + i) % 4 = i % 4 by omega]
theorem cMost_le' {τ : Nat → Nat → Nat → Int32} {E P D G : Nat} : ∀ {k : Nat}, G < k → cMost τ E P D k ≤ cFreeG τ D G + cKept τ E P D G
  | k + 1, h => by
    rw [cMost]
    by_cases e : G = k
    · subst e
      split <;> omega
    · have := cMost_le' (τ := τ) (E := E) (P := P) (D := D) (G := G) (k := k) (by omega)
      split <;> omega
theorem cMost_ge {τ : Nat → Nat → Nat → Int32} {E P D c : Nat} (hc : c ≤ 12) : ∀ {k : Nat}, (∀ G, G < k → c ≤ cFreeG τ D G + cKept τ E P D G) → c ≤ cMost τ E P D k
  | 0, _ => hc
  | k + 1, h => by
    rw [cMost]
    have a := cMost_ge hc (k := k) fun G hG => h G (by omega)
    have b := h k (by omega)
    split <;> omega
section MT
variable {K E P D : Nat} {τ : Nat → Nat → Nat → Int32} {h mn : Nat → Int32}
theorem Mt_cover (hI : Iv K E P τ) (hD : D < 10) (hM : Mt τ D P h mn) (G : Nat) : mC mn P ≤ cFreeG τ D G + cKept τ E P D G := by
  have hP := hI.P12
  unfold mC
  rw [cN_split (A := fun p => G.testBit (ix (mn p) % 4))]
  refine Nat.add_le_add ?_ ?_
  · refine Nat.le_trans (im_cN (f := fun p => ix (mn p)) (w := 16) (fun p hp hw => ?_) (fun p hp q hq hwp hwq e => ?_)) ?_
    · rw [Bool.and_eq_true] at hw
      have hw1 : ¬ mn p = -1 := by simpa using hw.1
      rcases hM.2 p hp with z | ⟨i, hi, e1, e2⟩
      · exact absurd z hw1
      · rw [e1, ixn (by omega)]
        exact hi
    · rw [Bool.and_eq_true] at hwp hwq
      have hw1 : ¬ mn p = -1 := by simpa using hwp.1
      have hw2 : ¬ mn q = -1 := by simpa using hwq.1
      rcases hM.2 p hp with z | ⟨i, hi, e1, e2⟩
      · exact absurd z hw1
      · rcases hM.2 q hq with z | ⟨j, hj, f1, f2⟩
        · exact absurd z hw2
        · rw [e1, f1, ixn (by omega), ixn (by omega)] at e
          subst e
          rw [e2] at f2
          exact nI_i (by omega) (by omega) f2
    · refine cN_mono fun i hi him => ?_
      obtain ⟨p, hp, hw, e⟩ := im_of him
      rw [Bool.and_eq_true] at hw
      have hw1 : ¬ mn p = -1 := by simpa using hw.1
      rcases hM.2 p hp with z | ⟨j, hj, e1, e2⟩
      · exact absurd z hw1
      · have hw2 := hw.2
        rw [e1, ixn (by omega)] at e hw2
        subst e
        rcases hM.1 j hi with z | ⟨p', hp', g1, g2, g3, g4⟩
        · rw [e2] at z
          exact absurd z (nI_m1 (by omega))
        · rw [Bool.and_eq_true, decide_eq_true_eq]
          exact ⟨((can_parts hi).mp g3).1, hw2⟩
  · refine cN_mono fun p hp hw => ?_
    rw [Bool.and_eq_true] at hw
    have hw1 : ¬ mn p = -1 := by simpa using hw.1
    rcases hM.2 p hp with z | ⟨i, hi, e1, e2⟩
    · exact absurd z hw1
    · have hw2 := hw.2
      rw [e1, ixn (by omega)] at hw2
      rcases hM.1 i hi with z | ⟨p', hp', g1, g2, g3, g4⟩
      · rw [e2] at z
        exact absurd z (nI_m1 (by omega))
      · rw [e2] at g1
        have := nI_i (by omega) (by omega) g1
        subst this
        obtain ⟨c1, c2, c3⟩ := (can_parts hi).mp g3
        rw [Bool.and_eq_true, Bool.and_eq_true]
        refine ⟨g4, c2, cOut_iff.mpr ⟨i % 4, ?_, by simpa using hw2, c3⟩⟩
        have := hI.ceE (i := 16 * D + i) (by omega) (by rw [c1]; decide)
        omega
theorem bits4 (b : Nat → Bool) : ∃ G, G < 16 ∧ ∀ e, e < 4 → G.testBit e = b e := by
  refine ⟨(if b 0 then 1 else 0) + (if b 1 then 2 else 0) + (if b 2 then 4 else 0) + (if b 3 then 8 else 0), by split <;> split <;> split <;> split <;> omega, fun e he => ?_⟩
  have : e = 0 ∨ e = 1 ∨ e = 2 ∨ e = 3 := by omega
  rcases this with rfl | rfl | rfl | rfl <;> cases b 0 <;> cases b 1 <;> cases b 2 <;> cases b 3 <;> decide
theorem Mt_most (hI : Iv K E P τ) (hD : D < 10) (hM : Mt τ D P h mn) {by' on : Nat → Int32} (ha : ∀ i, i < 16 → by' i = -1 ∨ ∃ p, p < P ∧ by' i = nI p ∧ on p = 1 ∧ gCan τ D p i = true) (hc : ∀ i, i < 16 → ¬ by' i = -1 → ∃ p, p < P ∧ h i = nI p ∧ on p = 1) (hcl : ∀ p, p < P → on p = 1 → ∀ i, i < 16 → gCan τ D p i = true → ¬ by' i = -1) (hun : ∀ p, p < P → gEl τ p = true → mn p = -1 → on p = 1) : mC mn P = cMost τ E P D 16 := by
  have hP := hI.P12
  have hE := hI.E4
  refine Nat.le_antisymm (cMost_ge (Nat.le_trans (cN_le _ _) hP) fun G _ => Mt_cover hI hD hM G) ?_
  obtain ⟨G, hG, hb⟩ := bits4 fun e => (fnd (fun i => decide (i % 4 = e) && (decide (τ 2 0 (16 * D + i) = -1) && decide (by' i = -1))) 16 0).isNone
  refine Nat.le_trans (cMost_le' hG) ?_
  have hv : ∀ i, i < 16 → τ 2 0 (16 * D + i) = -1 → (G.testBit (i % 4) = true) → ¬ by' i = -1 := fun i hi hf ht z => by
    rw [hb _ (by omega), Option.isNone_iff_eq_none] at ht
    have := fnd_none.mp ht i (by omega) (by omega)
    rw [hf, z] at this
    simp at this
  have hn : ∀ e, e < 4 → G.testBit e = false → ∃ i, i < 16 ∧ i % 4 = e ∧ τ 2 0 (16 * D + i) = -1 ∧ by' i = -1 := fun e he ht => by
    rw [hb e he] at ht
    cases q : fnd (fun i => decide (i % 4 = e) && (decide (τ 2 0 (16 * D + i) = -1) && decide (by' i = -1))) 16 0 with
    | none => rw [q] at ht; exact absurd ht (by decide)
    | some i =>
      obtain ⟨_, h2, h3, _⟩ := fnd_some q
      rw [Bool.and_eq_true, Bool.and_eq_true, decide_eq_true_eq, decide_eq_true_eq, decide_eq_true_eq] at h3
      exact ⟨i, by omega, h3.1, h3.2.1, h3.2.2⟩
  unfold mC
  rw [cN_split (W := fun p => !decide (mn p = -1)) (A := fun p => decide (on p = 1))]
  refine Nat.add_le_add ?_ ?_
  · refine Nat.le_trans (im_cN (f := fun i => ix (h i)) (w := P) (fun i hi hw => ?_) (fun i hi j hj hwi hwj e => ?_)) ?_
    · rw [Bool.and_eq_true, decide_eq_true_eq] at hw
      obtain ⟨p, hp, e, _⟩ := hc i hi (hv i hi hw.1 hw.2)
      rw [e, ixn (by omega)]
      exact hp
    · rw [Bool.and_eq_true, decide_eq_true_eq] at hwi hwj
      obtain ⟨p, hp, e1, _⟩ := hc i hi (hv i hi hwi.1 hwi.2)
      obtain ⟨q, hq, e2, _⟩ := hc j hj (hv j hj hwj.1 hwj.2)
      rw [e1, e2, ixn (by omega), ixn (by omega)] at e
      subst e
      rcases hM.1 i hi with z | ⟨p', hp', g1, g2, _⟩
      · rw [e1] at z; exact absurd z (nI_m1 (by omega))
      · rcases hM.1 j hj with z | ⟨q', hq', f1, f2, _⟩
        · rw [e2] at z; exact absurd z (nI_m1 (by omega))
        · rw [e1] at g1
          rw [e2] at f1
          have a1 := nI_i (by omega) (by omega) g1
          have a2 := nI_i (by omega) (by omega) f1
          subst a1 a2
          rw [g2] at f2
          exact nI_i (by omega) (by omega) f2
    · refine cN_mono fun p hp him => ?_
      obtain ⟨i, hi, hw, e⟩ := im_of him
      rw [Bool.and_eq_true, decide_eq_true_eq] at hw
      obtain ⟨q, hq, e1, o1⟩ := hc i hi (hv i hi hw.1 hw.2)
      rw [e1, ixn (by omega)] at e
      subst e
      rcases hM.1 i hi with z | ⟨p', hp', g1, g2, _⟩
      · rw [e1] at z; exact absurd z (nI_m1 (by omega))
      · rw [e1] at g1
        have a1 := nI_i (by omega) (by omega) g1
        subst a1
        rw [Bool.and_eq_true, decide_eq_true_eq]
        refine ⟨?_, o1⟩
        rw [g2]
        simp [nI_m1 (show i < 2 ^ 31 by omega)]
  · refine cN_mono fun p hp hw => ?_
    rw [Bool.and_eq_true, Bool.and_eq_true] at hw
    obtain ⟨w1, w2, w3⟩ := hw
    obtain ⟨e, he, t1, t2⟩ := cOut_iff.mp w3
    obtain ⟨i, hi, ie, i1, i2⟩ := hn e (by omega) t1
    have hcan : gCan τ D p i = true := (can_parts hi).mpr ⟨i1, w2, by rw [ie]; exact t2⟩
    have non : ¬ on p = 1 := fun z => hcl p hp z i hi hcan i2
    rw [Bool.and_eq_true]
    refine ⟨?_, by simpa using non⟩
    have : ¬ mn p = -1 := fun z => non (hun p hp w1 z)
    simpa using this
end MT
