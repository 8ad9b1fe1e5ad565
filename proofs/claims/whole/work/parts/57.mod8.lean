/-! THE MODEL: what is told -/
theorem sI_add {f h : Nat → Int32} : ∀ {n : Nat}, sI (fun k => f k + h k) n = sI f n + sI h n
  | 0 => (Int32.add_zero 0).symm
  | n + 1 => by
    rw [sI, sI, sI, sI_add]
    rw [Int32.add_assoc, Int32.add_assoc, ← Int32.add_assoc (sI h n), Int32.add_comm (sI h n), Int32.add_assoc]
theorem sI_0 {f : Nat → Int32} : ∀ {n : Nat}, (∀ k, k < n → f k = 0) → sI f n = 0
  | 0, _ => rfl
  | n + 1, h => by
    rw [sI, sI_0 (n := n) fun k hk => h k (by omega), h n (by omega), Int32.add_zero]
theorem sI_1 {f : Nat → Int32} {i : Nat} : ∀ {n : Nat}, i < n → (∀ k, k < n → k ≠ i → f k = 0) → sI f n = f i
  | n + 1, hi, h => by
    rw [sI]
    by_cases e : i = n
    · subst e
      rw [sI_0 fun k hk => h k (by omega) (by omega), Int32.zero_add]
    · rw [sI_1 (n := n) (by omega) fun k hk hne => h k (by omega) hne, h n (by omega) (by omega), Int32.add_zero]
def dCell (τ : Nat → Nat → Nat → Int32) (p : Nat) : Int32 := match cCell τ (nI p) with
  | none => 0
  | some i => nI (i / 16)
theorem days_one {τ : Nat → Nat → Nat → Int32} {K E P p : Nat} (h : Iv K E P τ) (hp : p < P) : sI (fun i => if τ 2 0 i = nI p then nI (i / 16) else 0) 160 = dCell τ p := by
  unfold dCell
  cases e : cCell τ (nI p) with
  | none =>
    refine sI_0 fun k hk => ?_
    rw [if_neg (cCell_none e hk)]
  | some i =>
    obtain ⟨hi, ei⟩ := cCell_some e
    rw [sI_1 hi fun k hk hne => ?_, if_pos ei]
    exact if_neg fun z => hne (h.un hp hk hi z ei)
theorem days_eq {τ : Nat → Nat → Nat → Int32} {K E P : Nat} (h : Iv K E P τ) : ∀ {p : Nat}, p ≤ P → sI (fun i => if isPu p (τ 2 0 i) then nI (i / 16) else 0) 160 = sI (dCell τ) p
  | 0, _ => by
    refine sI_0 fun k hk => if_neg ?_
    unfold isPu
    rw [decide_eq_true_eq]
    exact fun z => z.2 (Int32.not_lt.mp z.1)
  | p + 1, hp => by
    have hP := h.P12
    rw [show sI (dCell τ) (p + 1) = sI (dCell τ) p + dCell τ p from rfl, ← days_eq h (by omega), ← days_one h (by omega), ← sI_add]
    refine sI_congr fun k hk => ?_
    have e1 : ∀ q, q ≤ P → (isPu q (τ 2 0 k) = true ↔ ∃ r, r < q ∧ τ 2 0 k = nI r) := fun q hq => by
      unfold isPu
      rw [decide_eq_true_eq]
      exact hasX (by omega) _
    by_cases a : τ 2 0 k = nI p
    · rw [if_pos ((e1 (p + 1) hp).mpr ⟨p, by omega, a⟩), if_pos a, if_neg (fun z => ?_), Int32.zero_add]
      obtain ⟨r, hr, er⟩ := (e1 p (by omega)).mp z
      rw [a] at er
      have := nI_i (by omega) (by omega) er
      omega
    · rw [if_neg a, Int32.add_zero]
      by_cases b : isPu p (τ 2 0 k) = true
      · obtain ⟨r, hr, er⟩ := (e1 p (by omega)).mp b
        rw [if_pos b, if_pos ((e1 (p + 1) hp).mpr ⟨r, by omega, er⟩)]
      · rw [if_neg b, if_neg (fun z => ?_)]
        obtain ⟨r, hr, er⟩ := (e1 (p + 1) hp).mp z
        by_cases c : r = p
        · exact a (by rw [er, c])
        · exact b ((e1 p (by omega)).mpr ⟨r, by omega, er⟩)
section M8
variable {g : GG} {d : Nat} {c n : Nat} {m : PM} {Q : Ou → PM → Nat → Nat → Prop} {K E P S : Nat} {τ : Nat → Nat → Nat → Int32}
theorem Rel.k (hR : Rel E P τ (m.1 9 21 0)) {e k : Nat} (he : e < E) (hE : E ≤ 4) (hk : k < 40) : m.1 9 21 0 (9 + 40 * e + k) = τ 2 0 (4 * k + e) := by
  have := hR.ce' (i := 4 * k + e) (by omega) (by omega)
  rwa [show 9 + 40 * ((4 * k + e) % 4) + (4 * k + e) / 4 = 9 + 40 * e + k by omega] at this
theorem mo_slotsOf {e : Nat} {x : Int32} (hR : Rel E P τ (m.1 9 21 0)) (hI : Iv K E P τ) (he : e < E) (h : Q (.inl (some (pI (cKind τ e x)))) m c n) : Wq g d MX5_slotsOf c n 0 [some (pO 20 9 0), some (pI (nI e)), some (pI x)] [] m Q := by
  have hE := hI.E4
  refine sgX5_slotsOf ?_
  refine Wq.up (S := Unit) 40 (fun k _ => [some (pO 20 9 0), some (pI (nI e)), some (pI x), some (pI (nI (cN (fun k => decide (τ 2 0 (4 * k + e) = x)) k))), some (pI (nI k))]) (fun _ _ => m) (fun _ _ => True) (fun _ _ => ?_) (fun k _ hk _ ih => ?_) 0 () (by omega) trivial
  · exact sgX5_slotsOf_5 ⟨fun _ => h, fun q => absurd (geL (Nat.le_refl 40) (by decide)) q⟩
  · have ih' := ih () trivial
    rw [cN] at ih'
    refine sgX5_slotsOf_5 ⟨fun q => absurd q (ngeL hk (by decide)), fun _ => ?_⟩
    simp (disch := omega) only [at_j, nI_1, ixn, Int32.add_zero]
    rw [hR.k he hE hk]
    refine ⟨vp_in_nI (by omega) (by decide), fun q => ?_, fun q => ?_⟩
    · rw [if_neg (by simpa using q)] at ih'
      exact ih'
    · rw [if_pos (by simpa using q)] at ih'
      exact ih'
theorem mo_stages {x : Int32} (hR : Rel E P τ (m.1 9 21 0)) (hI : Iv K E P τ) (h : Q (.inl (some (pI (cWho P τ x)))) m c n) : Wq g (d + 1) MX5_stages c n 0 [some (pO 20 9 0), some (pI x)] [] m Q := by
  have hP := hI.P12
  have e2 := hR.h (k := 2) (by decide)
  rw [hI.hP] at e2
  refine sgX5_stages ?_
  refine Wq.up (S := Unit) P (fun k _ => [some (pO 20 9 0), some (pI x), some (pI (nI (cN (fun p => decide (τ 4 p 0 = x)) k))), some (pI (nI k))]) (fun _ _ => m) (fun _ _ => True) (fun _ _ => ?_) (fun k _ hk _ ih => ?_) 0 () (by omega) trivial
  · exact sgX5_stages_4 ⟨fun _ => h, fun q => absurd (by rw [ix_2, e2]; exact geL (Nat.le_refl P) (by omega)) q⟩
  · have ih' := ih () trivial
    rw [cN] at ih'
    refine sgX5_stages_4 ⟨fun q => absurd (by rw [ix_2, e2] at q; exact q) (ngeL hk (by omega)), fun _ => ?_⟩
    simp (disch := omega) only [ixn, nI_1, nI_add, pk_mul, nI_p0, of0, of1, of2, of3, of4, of5, of6, of7, of8, dv16, dv4, rm4, at_n, pl_n, ce_n, oe_n, oe0, oe1, oe2, ix_0, ix_1, ix_2, ix_3, ix_4, ix_5, ix_6, ix_7, ix_8]
    rw [hR.p hk (k := 0) (by decide)]
    refine ⟨vp_in_nI (by omega) (by decide), fun q => ?_, fun q => ?_⟩
    · rw [if_neg (by simpa using q)] at ih'
      exact ih'
    · rw [if_pos (by simpa using q)] at ih'
      exact ih'
theorem mo_examinerOf {e w : Nat} (hR : Rel E P τ (m.1 9 21 0)) (hI : Iv K E P τ) (he : e < E) (hw : w < 9) (h : Q (.inl (some (pI (cExa τ e w)))) m c n) : Wq g (d + 1) MX5_examinerOf_ c n 0 [some (pO 20 9 0), some (pI (nI e)), some (pI (nI w))] [] m Q := by
  have hE := hI.E4
  obtain ⟨a0, a1, a2, a3⟩ := hR.2.2.2.2 e he
  have oen : ∀ k, (169 + (7 * nI e)) + nI k = nI (169 + 7 * e + k) := fun k => by
    rw [show (169 : Int32) = nI 169 from rfl, show (7 : Int32) = nI 7 from rfl, pk_mul, nI_add, nI_add]
  have big : ∀ k, 2 ≤ k → k < 7 → ∀ x, cExa τ e (k + 2) = x → m.1 9 21 0 (169 + 7 * e + k) = x → (¬ nI (k + 2) = 2) → (¬ nI (k + 2) = 3) → Q (.inl (some (pI x))) m c n → Wq g (d + 1) MX5_examinerOf_ c n 0 [some (pO 20 9 0), some (pI (nI e)), some (pI (nI (k + 2)))] [] m Q := fun k h2 h7 x _ e2 n2 n3 hq => by
    refine sgX5_examinerOf_ ⟨fun _ => ⟨fun _ => ⟨fun _ => ?_, fun z => absurd z n3⟩, fun z => absurd z n2⟩, fun z => absurd (geL (N := 2) (i := k + 2) (by omega) (by omega)) z⟩
    rw [show nI (k + 2) - 2 = nI k by rw [show nI (k + 2) = nI k + 2 from (nI_add k 2).symm]; exact Int32.add_sub_cancel _ _, oen, ixn (by omega), e2]
    exact ⟨vp_in_nI (by omega) (by decide), hq⟩
  have : w = 0 ∨ w = 1 ∨ w = 2 ∨ w = 3 ∨ w = 4 ∨ w = 5 ∨ w = 6 ∨ w = 7 ∨ w = 8 := by omega
  rcases this with rfl | rfl | rfl | rfl | rfl | rfl | rfl | rfl | rfl
  · refine sgX5_examinerOf_ ⟨fun z => absurd z (by decide), fun _ => ?_⟩
    rw [oen, ixn (by omega), a0]
    exact ⟨vp_in_nI (by omega) (by decide), h⟩
  · refine sgX5_examinerOf_ ⟨fun z => absurd z (by decide), fun _ => ?_⟩
    rw [oen, ixn (by omega), a1]
    exact ⟨vp_in_nI (by omega) (by decide), h⟩
  · exact sgX5_examinerOf_ ⟨fun _ => ⟨fun z => absurd rfl z, fun _ => mo_slotsOf hR hI he ⟨rfl, rfl, h⟩⟩, fun z => absurd (by decide) z⟩
  · exact sgX5_examinerOf_ ⟨fun _ => ⟨fun _ => ⟨fun z => absurd rfl z, fun _ => mo_slotsOf hR hI he ⟨rfl, rfl, h⟩⟩, fun z => absurd z (by decide)⟩, fun z => absurd (by decide) z⟩
  · exact big 2 (by decide) (by decide) _ rfl a2 (by decide) (by decide) h
  · exact big 3 (by decide) (by decide) _ rfl (a3 0 (by decide)) (by decide) (by decide) h
  · exact big 4 (by decide) (by decide) _ rfl (a3 1 (by decide)) (by decide) (by decide) h
  · exact big 5 (by decide) (by decide) _ rfl (a3 2 (by decide)) (by decide) (by decide) h
  · exact big 6 (by decide) (by decide) _ rfl (a3 3 (by decide)) (by decide) (by decide) h
theorem mo_sumOfExaminers {w : Nat} (hR : Rel E P τ (m.1 9 21 0)) (hI : Iv K E P τ) (hw : w < 9) (h : Q (.inl (some (pI (sI (fun e => cExa τ e w) E)))) m c n) : Wq g (d + 2) MX5_sumOfExaminers c n 0 [some (pO 20 9 0), some (pI (nI w))] [] m Q := by
  have hE := hI.E4
  have e1 := hR.h (k := 1) (by decide)
  rw [hI.hE] at e1
  refine sgX5_sumOfExaminers ?_
  refine Wq.up (S := Unit) E (fun k _ => [some (pO 20 9 0), some (pI (nI w)), some (pI (sI (fun e => cExa τ e w) k)), some (pI (nI k))]) (fun _ _ => m) (fun _ _ => True) (fun _ _ => ?_) (fun k _ hk _ ih => ?_) 0 () (by omega) trivial
  · exact sgX5_sumOfExaminers_4 ⟨fun _ => h, fun q => absurd (by rw [ix_1, e1]; exact geL (Nat.le_refl E) (by omega)) q⟩
  · have ih' := ih () trivial
    rw [sI] at ih'
    refine sgX5_sumOfExaminers_4 ⟨fun q => absurd (by rw [ix_1, e1] at q; exact q) (ngeL hk (by omega)), fun _ => ?_⟩
    refine mo_examinerOf hR hI hk hw ⟨rfl, rfl, ?_⟩
    dsimp only [cI]
    rw [nI_1]
    exact ih'
theorem mo_sumOfPupils {w : Nat} (hR : Rel E P τ (m.1 9 21 0)) (hI : Iv K E P τ) (hw : w < 9) (h : Q (.inl (some (pI (sI (fun p => τ 4 p w) P)))) m c n) : Wq g (d + 1) MX5_sumOfPupils c n 0 [some (pO 20 9 0), some (pI (nI w))] [] m Q := by
  have hP := hI.P12
  have e2 := hR.h (k := 2) (by decide)
  rw [hI.hP] at e2
  refine sgX5_sumOfPupils ?_
  refine Wq.up (S := Unit) P (fun k _ => [some (pO 20 9 0), some (pI (nI w)), some (pI (sI (fun p => τ 4 p w) k)), some (pI (nI k))]) (fun _ _ => m) (fun _ _ => True) (fun _ _ => ?_) (fun k _ hk _ ih => ?_) 0 () (by omega) trivial
  · exact sgX5_sumOfPupils_4 ⟨fun _ => h, fun q => absurd (by rw [ix_2, e2]; exact geL (Nat.le_refl P) (by omega)) q⟩
  · have ih' := ih () trivial
    rw [sI] at ih'
    refine sgX5_sumOfPupils_4 ⟨fun q => absurd (by rw [ix_2, e2] at q; exact q) (ngeL hk (by omega)), fun _ => ?_⟩
    rw [of_n, ixn (by omega), hR.p hk hw, nI_1]
    exact ⟨vp_in_nI (by omega) (by decide), ih'⟩
theorem mo_sumOfDays (hR : Rel E P τ (m.1 9 21 0)) (hI : Iv K E P τ) (h : Q (.inl (some (pI (sI (fun i => if isPu P (τ 2 0 i) then nI (i / 16) else 0) 160)))) m c n) : Wq g (d + 3) MX5_sumOfDays c n 0 [some (pO 20 9 0)] [] m Q := by
  have hP := hI.P12
  have e2 := hR.h (k := 2) (by decide)
  rw [hI.hP] at e2
  rw [days_eq hI (Nat.le_refl P)] at h
  refine sgX5_sumOfDays ?_
  refine Wq.up (S := Unit) P (fun k _ => [some (pO 20 9 0), some (pI (sI (dCell τ) k)), some (pI (nI k)), none]) (fun _ _ => m) (fun _ _ => True) (fun _ _ => ?_) (fun k _ hk _ ih => ?_) 0 () (by omega) trivial
  · exact sgX5_sumOfDays_4 ⟨fun _ => h, fun q => absurd (by rw [ix_2, e2]; exact geL (Nat.le_refl P) (by omega)) q⟩
  · have ih' := ih () trivial
    rw [sI] at ih'
    refine sgX5_sumOfDays_4 ⟨fun q => absurd (by rw [ix_2, e2] at q; exact q) (ngeL hk (by omega)), fun _ => ?_⟩
    refine mo_slotBy hR hI hk ⟨rfl, rfl, ?_⟩
    dsimp only [cI]
    unfold dCell at ih'
    cases e : cCell τ (nI k) with
    | none =>
      simp only [e] at ih'
      rw [nI_1]
      exact ⟨fun z => absurd rfl z, fun _ => ih'⟩
    | some i =>
      have hi := cCell_lt e
      simp only [e] at ih'
      simp only [oI]
      simp (disch := omega) only [ixn, nI_1, nI_add, pk_mul, nI_p0, of0, of1, of2, of3, of4, of5, of6, of7, of8, dv16, dv4, rm4, at_n, pl_n, ce_n, oe_n, oe0, oe1, oe2, ix_0, ix_1, ix_2, ix_3, ix_4, ix_5, ix_6, ix_7, ix_8]
      exact ⟨fun _ => ih', fun z => absurd z (nI_m1 (by omega))⟩
theorem mo_counted {w : Nat} (hR : Rel E P τ (m.1 9 21 0)) (hI : Iv K E P τ) (hS : m.1 9 20 0 4 = nI S) (hw : w < 15) (h : Q (.inl (some (pI (cCnt E P S τ w)))) m c n) : Wq g (d + 4) MX5_counted c n 0 [some (pO 20 9 0), some (pI (nI w))] [] m Q := by
  have r0 := hR.h (k := 0) (by decide)
  have r1 := hR.h (k := 1) (by decide)
  have r2 := hR.h (k := 2) (by decide)
  have r4 := hR.h (k := 4) (by decide)
  have nw : ∀ k, k < 15 → ¬ k = w → ¬ nI w = nI k := fun k hk hne z => hne (nI_i (by omega) (by omega) z).symm
  have : w = 0 ∨ w = 1 ∨ w = 2 ∨ w = 3 ∨ w = 4 ∨ w = 5 ∨ w = 6 ∨ w = 7 ∨ w = 8 ∨ w = 9 ∨ w = 10 ∨ w = 11 ∨ w = 12 ∨ w = 13 ∨ w = 14 := by omega
  rcases this with rfl | rfl | rfl | rfl | rfl | rfl | rfl | rfl | rfl | rfl | rfl | rfl | rfl | rfl | rfl
  · refine sgX5_counted ⟨fun _ => ⟨vp_in_nI (by omega) (by decide), ?_⟩, fun z => absurd rfl z⟩
    rw [ixn (by omega), r0]
    exact h
  · refine sgX5_counted ⟨fun z => absurd z (by decide), fun _ => ⟨fun _ => ⟨vp_in_nI (by omega) (by decide), ?_⟩, fun z => absurd rfl z⟩⟩
    rw [ixn (by omega), r1]
    exact h
  · refine sgX5_counted ⟨fun z => absurd z (by decide), fun _ => ⟨fun z => absurd z (by decide), fun _ => ⟨fun _ => ⟨vp_in_nI (by omega) (by decide), ?_⟩, fun z => absurd rfl z⟩⟩⟩
    rw [ixn (by omega), r2]
    exact h
  · exact sgX5_counted ⟨fun z => absurd z (by decide), fun _ => ⟨fun z => absurd z (by decide), fun _ => ⟨fun z => absurd z (by decide), fun _ => ⟨fun _ => mo_stages (x := nI 3 - 3) hR hI ⟨rfl, rfl, h⟩, fun z => absurd rfl z⟩⟩⟩⟩
  · exact sgX5_counted ⟨fun z => absurd z (by decide), fun _ => ⟨fun z => absurd z (by decide), fun _ => ⟨fun z => absurd z (by decide), fun _ => ⟨fun z => absurd z (by decide), fun _ => ⟨fun _ => mo_stages (x := nI 4 - 3) hR hI ⟨rfl, rfl, h⟩, fun z => absurd rfl z⟩⟩⟩⟩⟩
  · exact sgX5_counted ⟨fun z => absurd z (by decide), fun _ => ⟨fun z => absurd z (by decide), fun _ => ⟨fun z => absurd z (by decide), fun _ => ⟨fun z => absurd z (by decide), fun _ => ⟨fun z => absurd z (by decide), fun _ => ⟨fun _ => mo_stages (x := nI 5 - 3) hR hI ⟨rfl, rfl, h⟩, fun z => absurd rfl z⟩⟩⟩⟩⟩⟩
  · exact sgX5_counted ⟨fun z => absurd z (by decide), fun _ => ⟨fun z => absurd z (by decide), fun _ => ⟨fun z => absurd z (by decide), fun _ => ⟨fun z => absurd z (by decide), fun _ => ⟨fun z => absurd z (by decide), fun _ => ⟨fun z => absurd z (by decide), fun _ => ⟨fun _ => mo_stages (x := nI 6 - 3) hR hI ⟨rfl, rfl, h⟩, fun z => absurd rfl z⟩⟩⟩⟩⟩⟩⟩
  · exact sgX5_counted ⟨fun z => absurd z (by decide), fun _ => ⟨fun z => absurd z (by decide), fun _ => ⟨fun z => absurd z (by decide), fun _ => ⟨fun z => absurd z (by decide), fun _ => ⟨fun z => absurd z (by decide), fun _ => ⟨fun z => absurd z (by decide), fun _ => ⟨fun z => absurd z (by decide), fun _ => ⟨fun _ => mo_sumOfExaminers (w := 0) hR hI (by decide) ⟨rfl, rfl, h⟩, fun z => absurd rfl z⟩⟩⟩⟩⟩⟩⟩⟩
  · exact sgX5_counted ⟨fun z => absurd z (by decide), fun _ => ⟨fun z => absurd z (by decide), fun _ => ⟨fun z => absurd z (by decide), fun _ => ⟨fun z => absurd z (by decide), fun _ => ⟨fun z => absurd z (by decide), fun _ => ⟨fun z => absurd z (by decide), fun _ => ⟨fun z => absurd z (by decide), fun _ => ⟨fun z => absurd z (by decide), fun _ => ⟨fun _ => mo_sumOfExaminers (w := 1) hR hI (by decide) ⟨rfl, rfl, h⟩, fun z => absurd rfl z⟩⟩⟩⟩⟩⟩⟩⟩⟩
  · exact sgX5_counted ⟨fun z => absurd z (by decide), fun _ => ⟨fun z => absurd z (by decide), fun _ => ⟨fun z => absurd z (by decide), fun _ => ⟨fun z => absurd z (by decide), fun _ => ⟨fun z => absurd z (by decide), fun _ => ⟨fun z => absurd z (by decide), fun _ => ⟨fun z => absurd z (by decide), fun _ => ⟨fun z => absurd z (by decide), fun _ => ⟨fun z => absurd z (by decide), fun _ => ⟨fun _ => mo_sumOfPupils (w := 5) hR hI (by decide) ⟨rfl, rfl, h⟩, fun z => absurd rfl z⟩⟩⟩⟩⟩⟩⟩⟩⟩⟩
  · refine sgX5_counted ⟨fun z => absurd z (by decide), fun _ => ⟨fun z => absurd z (by decide), fun _ => ⟨fun z => absurd z (by decide), fun _ => ⟨fun z => absurd z (by decide), fun _ => ⟨fun z => absurd z (by decide), fun _ => ⟨fun z => absurd z (by decide), fun _ => ⟨fun z => absurd z (by decide), fun _ => ⟨fun z => absurd z (by decide), fun _ => ⟨fun z => absurd z (by decide), fun _ => ⟨fun z => absurd z (by decide), fun _ => ⟨fun _ => ?_, fun z => absurd rfl z⟩⟩⟩⟩⟩⟩⟩⟩⟩⟩⟩
    rw [ix_4, r4]
    exact h
  · exact sgX5_counted ⟨fun z => absurd z (by decide), fun _ => ⟨fun z => absurd z (by decide), fun _ => ⟨fun z => absurd z (by decide), fun _ => ⟨fun z => absurd z (by decide), fun _ => ⟨fun z => absurd z (by decide), fun _ => ⟨fun z => absurd z (by decide), fun _ => ⟨fun z => absurd z (by decide), fun _ => ⟨fun z => absurd z (by decide), fun _ => ⟨fun z => absurd z (by decide), fun _ => ⟨fun z => absurd z (by decide), fun _ => ⟨fun z => absurd z (by decide), fun _ => ⟨fun _ => mo_sumOfPupils (w := 7) hR hI (by decide) ⟨rfl, rfl, h⟩, fun z => absurd rfl z⟩⟩⟩⟩⟩⟩⟩⟩⟩⟩⟩⟩
  · exact sgX5_counted ⟨fun z => absurd z (by decide), fun _ => ⟨fun z => absurd z (by decide), fun _ => ⟨fun z => absurd z (by decide), fun _ => ⟨fun z => absurd z (by decide), fun _ => ⟨fun z => absurd z (by decide), fun _ => ⟨fun z => absurd z (by decide), fun _ => ⟨fun z => absurd z (by decide), fun _ => ⟨fun z => absurd z (by decide), fun _ => ⟨fun z => absurd z (by decide), fun _ => ⟨fun z => absurd z (by decide), fun _ => ⟨fun z => absurd z (by decide), fun _ => ⟨fun z => absurd z (by decide), fun _ => ⟨fun _ => mo_sumOfExaminers (w := 2) hR hI (by decide) ⟨rfl, rfl, h⟩, fun z => absurd rfl z⟩⟩⟩⟩⟩⟩⟩⟩⟩⟩⟩⟩⟩
  · exact sgX5_counted ⟨fun z => absurd z (by decide), fun _ => ⟨fun z => absurd z (by decide), fun _ => ⟨fun z => absurd z (by decide), fun _ => ⟨fun z => absurd z (by decide), fun _ => ⟨fun z => absurd z (by decide), fun _ => ⟨fun z => absurd z (by decide), fun _ => ⟨fun z => absurd z (by decide), fun _ => ⟨fun z => absurd z (by decide), fun _ => ⟨fun z => absurd z (by decide), fun _ => ⟨fun z => absurd z (by decide), fun _ => ⟨fun z => absurd z (by decide), fun _ => ⟨fun z => absurd z (by decide), fun _ => ⟨fun z => absurd z (by decide), fun _ => ⟨fun _ => mo_sumOfDays hR hI ⟨rfl, rfl, h⟩, fun z => absurd rfl z⟩⟩⟩⟩⟩⟩⟩⟩⟩⟩⟩⟩⟩⟩
  · refine sgX5_counted ⟨fun z => absurd z (by decide), fun _ => ⟨fun z => absurd z (by decide), fun _ => ⟨fun z => absurd z (by decide), fun _ => ⟨fun z => absurd z (by decide), fun _ => ⟨fun z => absurd z (by decide), fun _ => ⟨fun z => absurd z (by decide), fun _ => ⟨fun z => absurd z (by decide), fun _ => ⟨fun z => absurd z (by decide), fun _ => ⟨fun z => absurd z (by decide), fun _ => ⟨fun z => absurd z (by decide), fun _ => ⟨fun z => absurd z (by decide), fun _ => ⟨fun z => absurd z (by decide), fun _ => ⟨fun z => absurd z (by decide), fun _ => ⟨fun z => absurd z (by decide), fun _ => ?_⟩⟩⟩⟩⟩⟩⟩⟩⟩⟩⟩⟩⟩⟩
    rw [hS]
    exact h
end M8
