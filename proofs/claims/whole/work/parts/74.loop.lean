/-! THE LAW: its loop -/
theorem lt_L {L j : Nat} (hL : L < 2 ^ 30) (hj : j < 2 ^ 30) : (nI L - 4) < nI j ↔ L < j + 4 := by
  have e : (nI L - 4).toInt = (L : Int) - 4 := by
    rw [Int32.toInt_sub, nI_toInt (by omega), show (4 : Int32).toInt = 4 by decide]
    rw [Int.bmod_eq_of_le] <;> omega
  rw [Int32.lt_iff_toInt_lt, e, nI_toInt (by omega)]
  omega
theorem law_loop {g : GG} {d : Nat} {Q : Ou → PM → Nat → Nat → Prop} (hg : gL g ≤ 2048) (hQ : ∀ m c n, Q (.inl (some (pI 1))) m c n) : ∀ (R i c n : Nat) (m : PM), Top i m → gL g ≤ 4 * i + 4 * R + 3 → i + R ≤ 1048575 → i ≤ 1000000 → 4 * i ≤ gL g + 4 → R + 1 ≤ c → 6 * (R + 1) ≤ n → Wq g (d + 10) ML_law c n 23 [some (pO 41 10 0), some (pO 10 8 0), some (pO 20 9 0), some (pO 40 10 0), some (pI (nI (4 * i))), none, none, none, none] [] m Q := by
  intro R
  induction R with
  | zero =>
    intro i c n m hT h1 h2 h3 h4 h5 h6
    obtain ⟨c, rfl⟩ : ∃ c', c = c' + 1 := ⟨c - 1, by omega⟩
    obtain ⟨n, rfl⟩ : ∃ n', n = n' + 6 := ⟨n - 6, by omega⟩
    refine sgL_law_23 (d := d + 1) ⟨fun _ => hQ _ _ _, fun q => absurd ((lt_L (by omega) (by omega)).mpr (by omega)) q⟩
  | succ R ih =>
    intro i c n m hT h1 h2 h3 h4 h5 h6
    obtain ⟨c, rfl⟩ : ∃ c', c = c' + 1 := ⟨c - 1, by omega⟩
    obtain ⟨n, rfl⟩ : ∃ n', n = n' + 6 := ⟨n - 6, by omega⟩
    refine sgL_law_23 (d := d + 1) ⟨fun _ => hQ _ _ _, fun q => ?_⟩
    rw [lt_L (by omega) (by omega)] at q
    have hv0 : vp_in (nI (4 * i)) (gL g) := vp_in_nI (by omega) (by omega)
    have hv1 : vp_in (nI (4 * i) + 1) (gL g) := by rw [show nI (4 * i) + 1 = nI (4 * i + 1) from nI_add _ 1]; exact vp_in_nI (by omega) (by omega)
    have hv2 : vp_in (nI (4 * i) + 2) (gL g) := by rw [show nI (4 * i) + 2 = nI (4 * i + 2) from nI_add _ 2]; exact vp_in_nI (by omega) (by omega)
    have hv3 : vp_in (nI (4 * i) + 3) (gL g) := by rw [show nI (4 * i) + 3 = nI (4 * i + 3) from nI_add _ 3]; exact vp_in_nI (by omega) (by omega)
    have e4 : nI (4 * i) + 4 = nI (4 * (i + 1)) := nI_add _ 4
    have go : ∀ c' n' M, R + 1 ≤ c' → 6 * (R + 1) ≤ n' → Top (i + 1) M → Wq g (d + 10) ML_law c' n' 23 [some (pO 41 10 0), some (pO 10 8 0), some (pO 20 9 0), some (pO 40 10 0), some (pI (nI (4 * i) + 4)), none, none, none, none] [] M Q := fun c' n' M a b t => by
      rw [e4]
      exact ih (i + 1) c' n' M t (by omega) (by omega) (by omega) (by omega) a b
    have hL : ∀ M, Top (i + 1) M → Wq g (d + 10) ML_law c n 23 [some (pO 41 10 0), some (pO 10 8 0), some (pO 20 9 0), some (pO 40 10 0), some (pI (nI (4 * i) + 4)), none, none, none, none] [] M Q := fun M t => go c n M (by omega) (by omega) t
    have hL1 : ∀ M, Top (i + 1) M → Wq g (d + 10) ML_law (c + 1) (n + 6) 23 [some (pO 41 10 0), some (pO 10 8 0), some (pO 20 9 0), some (pO 40 10 0), some (pI (nI (4 * i) + 4)), none, none, none, none] [] M Q := fun M t => go (c + 1) (n + 6) M (by omega) (by omega) t
    have hN : i + 1 ≤ 1048576 := by omega
    have hT0 := hT
    obtain ⟨K, E, P, S, L, hT⟩ := hT
    refine ⟨hv0, ?_⟩
    refine ⟨fun _ => la_addExaminer hT hN hL, fun _ => ?_⟩
    refine ⟨fun _ => la_addPupil hT hN hL, fun _ => ?_⟩
    refine ⟨fun _ => ⟨hv1, la_ask hv1 hT hN hL⟩, fun _ => ?_⟩
    refine ⟨fun _ => ⟨hv1, la_quit hv1 hT hN hL⟩, fun _ => ?_⟩
    refine ⟨fun _ => ⟨hv1, hv2, la_cancel hv1 hv2 hT hN hL⟩, fun _ => ?_⟩
    refine ⟨fun _ => ⟨hv1, hv2, fun y0 => la_test (k := 3) (V := True) (V2 := True) (Or.inl ⟨rfl, rfl⟩) hT hN hL fun r h w => ⟨hv1, hv2, fun _ => w, fun z => absurd y0 z⟩, fun y0 => la_test (k := 2) (V := True) (V2 := True) (Or.inr ⟨rfl, by decide⟩) hT hN hL fun r h w => ⟨hv1, hv2, fun z => absurd z y0, fun _ => w⟩⟩, fun _ => ?_⟩
    refine ⟨fun _ => la_next hT hN hL, fun _ => ?_⟩
    refine ⟨fun _ => ⟨hv1, hv2, la_set hv1 hv2 hT hN hL⟩, fun _ => ?_⟩
    refine ⟨fun _ => ⟨hv1, la_append hv1 hT hN hL⟩, fun _ => ?_⟩
    refine ⟨fun _ => la_clear hT hN hL1, fun _ => ?_⟩
    refine ⟨fun _ => la_first hT hN hL1, fun _ => ?_⟩
    refine ⟨fun _ => la_run hT hN hL, fun _ => ?_⟩
    refine ⟨fun _ => la_undo hT hN hL, fun _ => ?_⟩
    refine ⟨fun _ => ⟨hv1, hv2, la_pupil hv1 hv2 hT hN hL⟩, fun _ => ?_⟩
    refine ⟨fun _ => ⟨hv1, hv2, la_examiner hv1 hv2 hT hN hL⟩, fun _ => ?_⟩
    refine ⟨fun _ => ⟨hv1, hv2, hv3, la_slot hv1 hv2 hv3 hT hN hL⟩, fun _ => ?_⟩
    refine ⟨fun _ => ⟨hv1, la_count hv1 hT hN hL⟩, fun _ => ?_⟩
    refine ⟨fun _ => ⟨hv1, la_setting hv1 hT hN hL⟩, fun _ => ?_⟩
    refine ⟨fun _ => ⟨hv1, hv2, la_earliest hv1 hv2 hT hN hL⟩, fun _ => ?_⟩
    refine ⟨fun _ => ⟨hv1, hv2, hv3, la_ifCancelled hv1 hv2 hv3 hT hN hL⟩, fun _ => ?_⟩
    refine ⟨fun _ => ⟨hv1, hv2, la_ifTested hv1 hv2 hT hN hL⟩, fun _ => ?_⟩
    refine ⟨fun _ => ⟨hv1, la_couldHave hv1 hT hN hL⟩, fun _ => ?_⟩
    refine ⟨fun _ => la_share hT hN hL1, fun _ => ?_⟩
    refine ⟨fun _ => la_digest hT hN hL1, fun _ => ?_⟩
    exact hL1 m (Top_up hT0 hN)
