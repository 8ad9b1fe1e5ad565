/-! THE LAW: are the pupils so -/
section PU
variable {g : GG} {d : Nat} {c n : Nat} {m : PM} {Q : Ou → PM → Nat → Nat → Prop} {K E P D S : Nat}
def puL (P : Nat) (τ : Nat → Nat → Nat → Int32) (i : Nat) : List (Option PV) := [some (pO 10 8 0), some (pI (sI (fun p => τ 4 p 5) i)), some (pI (sI (fun p => τ 4 p 7) i)), some (pI (sI (fun p => cVal (fun c => nI (c / 16)) (cCell τ (nI p))) i)), some (pI (nI (mk (wt τ) (cPlace τ P) i))), some (pI (nI (cN (wt τ) i))), some (pI (nI i)), none, none, none]
theorem pu_120 {p : Nat} {x1 x2 x3 x4 x5 : Int32} (hO : Ok K E P D S m) (hp : p < P) (k : Wq g (d + 7) ML_arePupilsSo c n 15 [some (pO 10 8 0), some (pI x1), some (pI x2), some (pI x3), some (pI x4), some (pI x5), some (pI (nI p + 1)), none, none, none] [] m Q) : Wq g (d + 7) ML_arePupilsSo c n 120 [some (pO 10 8 0), some (pI x1), some (pI x2), some (pI x3), some (pI x4), some (pI x5), some (pI (nI p)), some (pI (m.1 0 4 p 0)), some (pI (cTell (cCell (m.1 0) (nI p)) 0)), none] [] m Q := by
  have hP := hO.1.P12
  have k1 : Wq g (d + 7) ML_arePupilsSo c n 214 [some (pO 10 8 0), some (pI x1), some (pI x2), some (pI x3), some (pI x4), some (pI x5), some (pI (nI p)), none, none, some (pI 1)] [] m Q := sgL_arePupilsSo_214 ⟨fun _ => k, fun q => absurd q (by decide)⟩
  refine sgL_arePupilsSo_120 ?_
  by_cases s2 : m.1 0 4 p 0 = 2
  · obtain ⟨i, ei⟩ := (hO.1.st2 hp).mp s2
    obtain ⟨hi, e2⟩ := cCell_some ei
    have hx8 : cTell (cCell (m.1 0) (nI p)) 0 = nI (i / 16) := by rw [ei]; rfl
    rw [hx8, s2]
    refine ⟨fun q => absurd rfl q, fun _ => ⟨fun q => absurd q (nI_pos (by omega)), fun _ => ⟨fun _ => ?_, fun q => absurd q (by decide)⟩⟩⟩
    refine ct_pupil hO rfl hp (w := 9) rfl (by decide) (v := -1) (by show (if m.1 0 4 p 0 = 1 then _ else (-1 : Int32)) = -1; rw [s2]; rfl) ?_
    refine ⟨fun _ => ⟨fun q => absurd rfl q, fun _ => ?_⟩, fun q => absurd (by decide) q⟩
    refine ct_pupil hO rfl hp (w := 7) rfl (by decide) (v := nI (i % 4)) (by show cTell (cCell (m.1 0) (nI p)) 2 = _; rw [ei]; rfl) ?_
    refine ct_pupil hO rfl hp (w := 6) rfl (by decide) (v := nI (i / 4 % 4)) (by show cTell (cCell (m.1 0) (nI p)) 1 = _; rw [ei]; rfl) ?_
    refine ct_slot hO rfl (hO.1.1.1.ceE' hp hi e2) rfl (b := i / 16) (by omega) rfl (k := i / 4 % 4) (by omega) (v := nI p) (by rw [show 16 * (i / 16) + 4 * (i / 4 % 4) + i % 4 = i by omega]; exact e2) ?_
    exact ⟨fun q => absurd rfl q, fun _ => k1⟩
  · have ec : cCell (m.1 0) (nI p) = none := by
      cases ec : cCell (m.1 0) (nI p) with
      | none => rfl
      | some i => exact absurd ((hO.1.st2 hp).mpr ⟨i, ec⟩) s2
    have hx8 : cTell (cCell (m.1 0) (nI p)) 0 = -1 := by rw [ec]; rfl
    rw [hx8]
    by_cases s1 : m.1 0 4 p 0 = 1
    · rw [s1]
      refine ⟨fun _ => ⟨fun _ => ⟨fun q => absurd rfl q, fun _ => ?_⟩, fun q => absurd (by decide) q⟩, fun q => absurd q (by decide)⟩
      have hpl := ord1 (τ := m.1 0) (P := P) hp (by unfold wt; rw [decide_eq_true_eq]; exact s1)
      have hw := cN_le (wt (m.1 0)) P
      unfold wN at hpl
      refine ct_pupil hO rfl hp (w := 9) rfl (by decide) (v := nI (cPlace (m.1 0) P p)) (by show (if m.1 0 4 p 0 = 1 then nI (cPlace (m.1 0) P p) else (-1 : Int32)) = _; rw [if_pos s1]) ?_
      exact ⟨fun q => absurd q (nI_pos (by omega)), fun _ => ⟨fun _ => k1, fun q => absurd q (by decide)⟩⟩
    · refine ⟨fun _ => ⟨fun _ => ⟨fun _ => ?_, fun q => absurd q s1⟩, fun q => absurd (by decide) q⟩, fun q => absurd q s2⟩
      refine ct_pupil hO rfl hp (w := 9) rfl (by decide) (v := -1) (by show (if m.1 0 4 p 0 = 1 then _ else (-1 : Int32)) = -1; rw [if_neg s1]) ?_
      exact ⟨fun _ => ⟨fun _ => k1, fun q => absurd q s2⟩, fun q => absurd (by decide) q⟩
theorem val_tell {o : Option Nat} (h : 0 ≤ cTell o 0) : cVal (fun c => nI (c / 16)) o = cTell o 0 := by
  cases o with
  | none => exact absurd h (by decide)
  | some i => rfl
theorem val_none {o : Option Nat} (ho : ∀ i, o = some i → i < 160) (h : ¬ 0 ≤ cTell o 0) : cVal (fun c => nI (c / 16)) o = 0 := by
  cases o with
  | none => rfl
  | some i =>
    have := ho i rfl
    exact absurd (show (0 : Int32) ≤ nI (i / 16) from nI_le (a := 0) (Nat.zero_le _) (by omega)) h
theorem pu_step {p : Nat} (hO : Ok K E P D S m) (hp : p < P) (ih : Wq g (d + 7) ML_arePupilsSo c n 15 (puL P (m.1 0) (p + 1)) [] m Q) : Wq g (d + 7) ML_arePupilsSo c n 15 (puL P (m.1 0) p) [] m Q := by
  have hP := hO.1.P12
  refine sgL_arePupilsSo_15 (ct_count hO rfl (w := 2) (by decide) hO.c2 ⟨fun q => absurd q (nI_ge hp (by omega)), fun _ => ?_⟩)
  refine ct_pupil hO rfl hp (w := 0) rfl (by decide) (v := m.1 0 4 p 0) rfl ?_
  refine ct_pupil hO rfl hp (w := 5) rfl (by decide) (v := cTell (cCell (m.1 0) (nI p)) 0) rfl ?_
  refine sgL_arePupilsSo_43 ?_
  refine ct_pupil hO rfl hp (w := 8) rfl (by decide) (v := m.1 0 4 p 5) rfl ?_
  refine ct_pupil hO rfl hp (w := 10) rfl (by decide) (v := m.1 0 4 p 7) rfl ?_
  unfold puL at ih
  rw [← nI_1 p] at ih
  have k79 : Wq g (d + 7) ML_arePupilsSo c n 79 [some (pO 10 8 0), some (pI (sI (fun p => m.1 0 4 p 5) p + m.1 0 4 p 5)), some (pI (sI (fun p => m.1 0 4 p 7) p + m.1 0 4 p 7)), some (pI (sI (fun p => cVal (fun c => nI (c / 16)) (cCell (m.1 0) (nI p))) p + cVal (fun c => nI (c / 16)) (cCell (m.1 0) (nI p)))), some (pI (nI (mk (wt (m.1 0)) (cPlace (m.1 0) P) p))), some (pI (nI (cN (wt (m.1 0)) p))), some (pI (nI p)), some (pI (m.1 0 4 p 0)), some (pI (cTell (cCell (m.1 0) (nI p)) 0)), none] [] m Q := by
    by_cases s1 : m.1 0 4 p 0 = 1
    · have hw : wt (m.1 0) p = true := by unfold wt; rw [decide_eq_true_eq]; exact s1
      have hpl := ord1 (τ := m.1 0) (P := P) hp hw
      have hw2 := cN_le (wt (m.1 0)) P
      unfold wN at hpl
      refine sgL_arePupilsSo_79 ⟨fun q => absurd s1 q, fun _ => ?_⟩
      rw [cN_step (p := wt (m.1 0)) (n := p) (x := 1) (by rw [hw]; rfl)]
      refine sgL_arePupilsSo_95 ⟨fun q => absurd s1 q, fun _ => ?_⟩
      refine ct_pupil hO rfl hp (w := 9) rfl (by decide) (v := nI (cPlace (m.1 0) P p)) (by show (if m.1 0 4 p 0 = 1 then nI (cPlace (m.1 0) P p) else (-1 : Int32)) = _; rw [if_pos s1]) ?_
      have hM := mk_lt (W := wt (m.1 0)) (f := cPlace (m.1 0) P) (w := 12) (n := p) fun q hq hwq => by
        have := ord1 (τ := m.1 0) (P := P) (p := q) (by omega) hwq
        unfold wN at this
        omega
      have eM : nI (mk (wt (m.1 0)) (cPlace (m.1 0) P) p) ||| (1 <<< (nI (cPlace (m.1 0) P p) &&& 31)) = nI (mk (wt (m.1 0)) (cPlace (m.1 0) P) (p + 1)) := by
        rw [bit_or _ (by omega) _ hM, mk, if_pos hw]
      rw [eM]
      exact pu_120 hO hp ih
    · have hw : wt (m.1 0) p = false := by unfold wt; rw [decide_eq_false_iff_not]; exact s1
      refine sgL_arePupilsSo_79 ⟨fun _ => ?_, fun q => absurd q s1⟩
      rw [cN_step (p := wt (m.1 0)) (n := p) (x := 0) (by rw [hw]; rfl)]
      refine sgL_arePupilsSo_95 ⟨fun _ => ?_, fun q => absurd q s1⟩
      have eM : mk (wt (m.1 0)) (cPlace (m.1 0) P) p = mk (wt (m.1 0)) (cPlace (m.1 0) P) (p + 1) := by
        rw [mk, if_neg (by rw [hw]; decide)]
      rw [i_or0, eM]
      exact pu_120 hO hp ih
  refine ⟨fun q => ?_, fun q => ?_⟩
  · rw [val_tell q] at k79
    exact k79
  · rw [val_none (fun i hi => cCell_lt hi) q] at k79
    exact k79
theorem co_pupils (hO : Ok K E P D S m) (h : Q (.inl (some (pI 1))) m c n) : Wq g (d + 7) ML_arePupilsSo c n 0 [some (pO 10 8 0)] [] m Q := by
  have hP := hO.1.P12
  refine sgL_arePupilsSo ?_
  refine Wq.up (S := Unit) P (fun i _ => puL P (m.1 0) i) (fun _ _ => m) (fun _ _ => True) (fun _ _ => ?_) (fun p _ hp _ ih => pu_step hO hp (ih () trivial)) 0 () (Nat.zero_le _) trivial
  refine sgL_arePupilsSo_15 (ct_count hO rfl (w := 2) (by decide) hO.c2 ⟨fun _ => ?_, fun q => absurd (nI_le (Nat.le_refl P) (by omega)) q⟩)
  refine ct_count hO rfl (w := 9) (by decide) rfl ⟨fun q => absurd rfl q, fun _ => ?_⟩
  refine ct_count hO rfl (w := 11) (by decide) rfl ⟨fun q => absurd rfl q, fun _ => ?_⟩
  refine ct_count hO rfl (w := 13) (by decide) rfl ⟨fun q => absurd (pu_sum hO.1.1.1 _) q, fun _ => ?_⟩
  refine ⟨fun q => absurd ?_ q, fun _ => ?_⟩
  · rw [mk_all hO.1.1.1.dw, show cN (wt (m.1 0)) P = wN P (m.1 0) from rfl, bit_full _ (by unfold wN; have := cN_le (wt (m.1 0)) P; omega)]
  refine ct_count hO rfl (w := 4) (by decide) rfl ⟨fun q => absurd rfl q, fun _ => ?_⟩
  refine sgL_arePupilsSo_285 ⟨fun q => absurd q (by decide), fun _ => ?_⟩
  refine ct_count hO rfl (w := 3) (by decide) rfl ?_
  refine ct_count hO rfl (w := 4) (by decide) rfl ?_
  refine ct_count hO rfl (w := 5) (by decide) rfl ?_
  refine ct_count hO rfl (w := 6) (by decide) rfl ?_
  refine ct_count hO rfl (w := 2) (by decide) hO.c2 ⟨fun q => absurd ?_ q, fun _ => h⟩
  have := four_sum (τ := m.1 0) (P := P) fun p hp => hO.1.st hp
  show nI _ + nI _ + nI _ + nI _ = nI P
  rw [nI_add, nI_add, nI_add, this]
end PU
