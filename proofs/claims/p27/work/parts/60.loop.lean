/-! THE LAW: its loop -/
section LP
variable {g : GG} {d : Nat} {c n : Nat} {m : PM} {Q : Ou → PM → Nat → Nat → Prop} {K E P D S i : Nat} {x2 x4 : Int32}
def Tq (i : Nat) (m : PM) : Prop := ∃ K E P D S, Ok K E P D S m ∧ K ≤ 4 * i ∧ D ≤ i ∧ 0 < E ∧ 0 < P
theorem la_280 (hi : i < 52) (hT : Tq (i + 1) m) (k : ∀ M, Tq (i + 1) M → Wq g (d + 8) ML_law c n 33 [some (pO 41 10 0), some (pO 10 8 0), some (pI x2), some (pI (nI i + 1)), none, none, none, none, none, none, none] [] M Q) : Wq g (d + 8) ML_law c n 280 [some (pO 41 10 0), some (pO 10 8 0), some (pI x2), some (pI (nI i)), some (pI x4), none, none, none, none, none, none] [] m Q := by
  obtain ⟨K, E, P, D, S, hO, b1, b2, b3, b4⟩ := hT
  obtain ⟨b, hb, eb⟩ := low_of (x4 >>> (8 &&& 31)) (n := 10) (by decide) (by decide)
  refine sgL_law_280 ⟨⟨by decide, trivial⟩, ?_⟩
  exact co_could hO eb (by omega) ⟨rfl, rfl, ⟨fun _ => k m ⟨K, E, P, D, S, hO, b1, b2, b3, b4⟩, fun q => absurd q (by decide)⟩⟩
theorem la_254 (hi : i < 52) (hT : Tq (i + 1) m) (k : ∀ M, Tq (i + 1) M → Wq g (d + 8) ML_law c n 33 [some (pO 41 10 0), some (pO 10 8 0), some (pI x2), some (pI (nI i + 1)), none, none, none, none, none, none, none] [] M Q) : Wq g (d + 8) ML_law c n 254 [some (pO 41 10 0), some (pO 10 8 0), some (pI x2), some (pI (nI i)), some (pI x4), none, none, none, none, none, none] [] m Q := by
  refine sgL_law_254 ⟨fun _ => la_280 hi hT k, fun _ => ?_⟩
  obtain ⟨K, E, P, D, S, hO, b1, b2, b3, b4⟩ := hT
  have hP := hO.1.P12
  obtain ⟨p, hp, ep⟩ := low_of (x4 >>> (5 &&& 31)) (n := P) b4 (by omega)
  refine ct_count hO rfl (w := 2) (by decide) hO.c2 ⟨⟨ne_0 b4 (by omega), trivial⟩, ?_⟩
  refine co_askSo hO (by omega) ep hp fun M S' hM => ⟨rfl, rfl, ⟨fun q => absurd q (by decide), fun _ => ?_⟩⟩
  exact la_280 hi ⟨K, E, P, D, S', hM, b1, b2, b3, b4⟩ k
theorem la_217 (hi : i < 52) (hT : Tq (i + 1) m) (k : ∀ M, Tq (i + 1) M → Wq g (d + 8) ML_law c n 33 [some (pO 41 10 0), some (pO 10 8 0), some (pI x2), some (pI (nI i + 1)), none, none, none, none, none, none, none] [] M Q) : Wq g (d + 8) ML_law c n 217 [some (pO 41 10 0), some (pO 10 8 0), some (pI x2), some (pI (nI i)), some (pI x4), none, none, none, none, none, none] [] m Q := by
  refine sgL_law_217 ⟨fun _ => la_254 hi hT k, fun _ => ?_⟩
  obtain ⟨K, E, P, D, S, hO, b1, b2, b3, b4⟩ := hT
  have hE := hO.1.E4
  obtain ⟨e, he, ee⟩ := low_of (x4 >>> (6 &&& 31)) (n := E) b3 (by omega)
  obtain ⟨b, hb, eb⟩ := low_of (x4 >>> (9 &&& 31)) (n := 10) (by decide) (by decide)
  refine ct_count hO rfl (w := 1) (by decide) hO.c1 ⟨⟨ne_0 b3 (by omega), trivial⟩, ⟨by decide, trivial⟩, ?_⟩
  refine co_cancelSo hO (by omega) ee he eb (by omega) fun M S' hM => ⟨rfl, rfl, ⟨fun q => absurd q (by decide), fun _ => ?_⟩⟩
  exact la_254 hi ⟨K, E, P, D, S', hM, b1, b2, b3, b4⟩ k
theorem la_194 (hi : i < 52) (hT : Tq (i + 1) m) (k : ∀ M, Tq (i + 1) M → Wq g (d + 8) ML_law c n 33 [some (pO 41 10 0), some (pO 10 8 0), some (pI x2), some (pI (nI i + 1)), none, none, none, none, none, none, none] [] M Q) : Wq g (d + 8) ML_law c n 194 [some (pO 41 10 0), some (pO 10 8 0), some (pI x2), some (pI (nI i)), some (pI x4), none, none, none, none, none, none] [] m Q := by
  have hT0 := hT
  obtain ⟨K, E, P, D, S, hO, b1, b2, b3, b4⟩ := hT
  refine sgL_law_194 (co_pupils hO ⟨rfl, rfl, ⟨fun q => absurd q (by decide), fun _ => ⟨fun _ => la_217 hi hT0 k, fun _ => ?_⟩⟩⟩)
  exact co_examiners hO ⟨rfl, rfl, ⟨fun _ => la_217 hi hT0 k, fun q => absurd q (by decide)⟩⟩
theorem la_step (hi : i < 52) (hg : gL g ≤ 260) (hT : Tq i m) (k : ∀ M, Tq (i + 1) M → Wq g (d + 8) ML_law c n 33 [some (pO 41 10 0), some (pO 10 8 0), some (pI x2), some (pI (nI i + 1)), none, none, none, none, none, none, none] [] M Q) : Wq g (d + 8) ML_law c n 33 [some (pO 41 10 0), some (pO 10 8 0), some (pI x2), some (pI (nI i)), none, none, none, none, none, none, none] [] m Q := by
  obtain ⟨K, E, P, D, S, hO, b1, b2, b3, b4⟩ := hT
  have hE := hO.1.E4
  have hP := hO.1.P12
  refine sgL_law_33 ⟨fun q => absurd q (ngeL (N := 52) hi (by decide)), fun _ => ⟨fun q => ⟨?_, trivial⟩, ?_⟩⟩
  · rw [nI_leI (by omega) (by omega)] at q
    exact vp_in_nI (by omega) (by omega)
  generalize (if nI (gL g) ≤ nI i then 7919 * (nI i + 3) * (nI i + 11) else gx g (ix (nI i))) = v
  obtain ⟨p, hp, ep⟩ := low_of (v >>> (4 &&& 31)) (n := P) b4 (by omega)
  refine sgL_law_46 (ct_count hO rfl (w := 2) (by decide) hO.c2 ⟨⟨ne_0 b4 (by omega), trivial⟩, ?_⟩)
  rw [ep]
  have k0 : ¬ isT (m.1 0) v p → Wq g (d + 8) ML_law c n 112 [some (pO 41 10 0), some (pO 10 8 0), some (pI x2), some (pI (nI i)), some (pI v), none, some (pI (nI p)), some (pI 0), none, none, none] [] m Q := fun z => by
    refine sgL_law_112 ⟨fun _ => ?_, fun q => absurd rfl q⟩
    refine sgL_law_137 ⟨fun _ => ?_, fun q => absurd rfl q⟩
    refine sgL_law_155 (co_does hO (by omega) (by omega) b3 hp ep fun w M hM => ⟨rfl, rfl, ?_⟩)
    obtain ⟨K', E', P', D', S', hO', c1, c2, c3, c4, _⟩ := hM
    exact sgL_law_163 ⟨fun _ => la_194 hi ⟨K', E', P', D', S', hO', by omega, by omega, by omega, by omega⟩ k, fun q => absurd rfl q⟩
  have k1 : isT (m.1 0) v p → Wq g (d + 8) ML_law c n 112 [some (pO 41 10 0), some (pO 10 8 0), some (pI x2), some (pI (nI i)), some (pI v), none, some (pI (nI p)), some (pI 1), none, none, none] [] m Q := fun z => by
    obtain ⟨j, ej, hj⟩ := day_16 z.2.2.2
    obtain ⟨hj160, e2⟩ := cCell_some ej
    refine sgL_law_112 ⟨fun q => absurd q (by decide), fun _ => ?_⟩
    refine ct_pupil hO rfl hp (w := 7) rfl (by decide) (v := nI (j % 4)) (by show cTell (cCell (m.1 0) (nI p)) 2 = _; rw [ej]; rfl) ?_
    refine ct_ifTested hO rfl hp rfl (hO.1.1.1.ceE' hp hj160 e2) rfl ?_
    refine sgL_law_137 ⟨fun q => absurd q (by decide), fun _ => ?_⟩
    refine ct_pupil hO rfl hp (w := 3) rfl (by decide) (v := m.1 0 4 p 3) rfl ?_
    refine sgL_law_155 (co_does hO (by omega) (by omega) b3 hp ep fun w M hM => ⟨rfl, rfl, ?_⟩)
    obtain ⟨K', E', P', D', S', hO', c1, c2, c3, c4, c5⟩ := hM
    obtain ⟨j', ej', _, ew, e3⟩ := c5 z
    rw [ej] at ej'
    cases ej'
    refine sgL_law_163 ⟨fun q => absurd q (by decide), fun _ => ⟨fun q => absurd ew q, fun _ => ⟨fun q => absurd q (route_ne _ _), fun _ => ?_⟩⟩⟩
    exact ct_pupil hO' rfl (by omega) (w := 3) rfl (by decide) (v := w) e3 ⟨fun q => absurd ew q, fun _ => la_194 hi ⟨K', E', P', D', S', hO', by omega, by omega, by omega, by omega⟩ k⟩
  refine sgL_law_64 ⟨fun q => k0 fun t => t.1 q, fun q1 => ⟨fun q2 => k0 fun t => t.2.1 q2, fun q2 => ?_⟩⟩
  refine ct_pupil hO rfl hp (w := 0) rfl (by decide) (v := m.1 0 4 p 0) rfl ⟨fun q3 => k0 fun t => q3 t.2.2.1, fun q3 => ?_⟩
  exact ct_pupil hO rfl hp (w := 5) rfl (by decide) (v := cTell (cCell (m.1 0) (nI p)) 0) rfl ⟨fun q4 => k0 fun t => q4 t.2.2.2, fun q4 => k1 ⟨q1, q2, q3, q4⟩⟩
theorem law_loop (hg : gL g ≤ 260) (hQ : ∀ m, Q (.inl (some (pI 1))) m c n) : ∀ (R i : Nat) (m : PM), i + R = 52 → Tq i m → Wq g (d + 8) ML_law c n 33 [some (pO 41 10 0), some (pO 10 8 0), some (pI 0), some (pI (nI i)), none, none, none, none, none, none, none] [] m Q := by
  intro R
  induction R with
  | zero =>
    intro i m hi hT
    have : i = 52 := by omega
    subst this
    exact sgL_law_33 ⟨fun _ => ⟨fun q => absurd rfl q, fun _ => hQ m⟩, fun q => absurd (by decide) q⟩
  | succ R ih =>
    intro i m hi hT
    refine la_step (by omega) hg hT fun M hM => ?_
    rw [nI_1]
    exact ih (i + 1) M (by omega) hM
theorem law_all (hg : gL g ≤ 260) (hO : Ok 0 0 0 0 S m) (hQ : ∀ m, Q (.inl (some (pI 1))) m c n) : Wq g (d + 8) ML_law c n 10 [some (pO 41 10 0), some (pO 10 8 0), some (pI 0), none, none, none, none, none, none, none, none] [] m Q := by
  refine sgL_law_10 ⟨fun q => absurd q (by decide), fun _ => ct_addPupil hO (by decide) fun M1 h1 => ?_⟩
  refine sgL_law_10 ⟨fun q => absurd q (by decide), fun _ => ct_addPupil h1 (by decide) fun M2 h2 => ?_⟩
  refine sgL_law_10 ⟨fun q => absurd q (by decide), fun _ => ct_addPupil h2 (by decide) fun M3 h3 => ?_⟩
  refine sgL_law_10 ⟨fun _ => ct_addExaminer h3 (by decide) fun M4 h4 => ?_, fun q => absurd (by decide) q⟩
  exact law_loop hg hQ 52 0 M4 rfl ⟨_, _, _, _, _, h4, by omega, by omega, by omega, by omega⟩
end LP
