/-! THE MODEL: looks -/
theorem tell_eq2 {o : Option Nat} (ho : ∀ i, o = some i → i < 160) {x : Int32} {w : Nat} (hx : x = nI w) (hw : w < 3) : ((if ¬ oI o = (-1) then (if ¬ x = 0 then (if ¬ x = 1 then (irm (oI o) 4) else (irm (oI o / 4) 4)) else (oI o / 16)) else (-1)) : Int32) = cTell o w := by
  rw [← tell_eq ho hx hw]
  by_cases a : oI o = -1
  · rw [if_neg (fun z => z a), if_neg (fun z => z a)]
  · rw [if_pos a, if_pos a]
    by_cases b : x = 0
    · rw [if_neg (fun z => z b), if_pos b]
    · rw [if_pos b, if_neg b]
      by_cases e : x = 1
      · rw [if_neg (fun z => z e), if_pos e]
      · rw [if_pos e, if_neg e]
section M9
variable {g : GG} {d : Nat} {c n : Nat} {m : PM} {Q : Ou → PM → Nat → Nat → Prop} {K E P S L : Nat} {τ : Nat → Nat → Nat → Int32}
theorem flR {x : Int32} : (setI m 20 9 0 0 x).1 9 21 0 = m.1 9 21 0 := by rw [setI_eq, rset_s, tI_t (by decide)]
theorem mo_pupilOf {p w : Nat} (hR : Rel E P τ (m.1 9 21 0)) (hI : Iv K E P τ) (hK : K < 2 ^ 31) (hp : p < P) (hw : w < 11) (h : Q (.inl (some (pI (cPup P τ p w)))) m c n) : Wq g (d + 3) MX5_pupilOf c n 0 [some (pO 20 9 0), some (pI (nI p)), some (pI (nI w))] [] m Q := by
  have hP := hI.P12
  have rw' : ∀ k, k < 9 → m.1 9 21 0 (197 + 12 * p + k) = τ 4 p k := fun k hk => hR.p hp hk
  have hc : ∀ i, cCell τ (nI p) = some i → i < 160 := fun i hi => cCell_lt hi
  have : w = 0 ∨ w = 1 ∨ w = 2 ∨ w = 3 ∨ w = 4 ∨ w = 5 ∨ w = 6 ∨ w = 7 ∨ w = 8 ∨ w = 9 ∨ w = 10 := by omega
  rcases this with rfl | rfl | rfl | rfl | rfl | rfl | rfl | rfl | rfl | rfl | rfl
  · refine sgX5_pupilOf ⟨fun _ => ?_, fun z => absurd rfl z⟩
    rw [of_n, ixn (by omega), rw' 0 (by decide)]
    exact ⟨vp_in_nI (by omega) (by decide), h⟩
  · refine sgX5_pupilOf ⟨fun z => absurd z (by decide), fun _ => ⟨fun _ => ?_, fun z => absurd rfl z⟩⟩
    rw [of_n, ixn (by omega), rw' 1 (by decide)]
    exact ⟨vp_in_nI (by omega) (by decide), h⟩
  · refine sgX5_pupilOf ⟨fun z => absurd z (by decide), fun _ => ⟨fun z => absurd z (by decide), fun _ => ⟨fun _ => ?_, fun z => absurd rfl z⟩⟩⟩
    rw [of_n, ixn (by omega), rw' 2 (by decide)]
    exact ⟨vp_in_nI (by omega) (by decide), h⟩
  · refine sgX5_pupilOf ⟨fun z => absurd z (by decide), fun _ => ⟨fun z => absurd z (by decide), fun _ => ⟨fun z => absurd z (by decide), fun _ => ⟨fun _ => ?_, fun z => absurd rfl z⟩⟩⟩⟩
    rw [of_n, ixn (by omega), rw' 3 (by decide)]
    exact ⟨vp_in_nI (by omega) (by decide), h⟩
  · refine sgX5_pupilOf ⟨fun z => absurd z (by decide), fun _ => ⟨fun z => absurd z (by decide), fun _ => ⟨fun z => absurd z (by decide), fun _ => ⟨fun z => absurd z (by decide), fun _ => ⟨fun _ => ?_, fun z => absurd rfl z⟩⟩⟩⟩⟩
    rw [of_n, ixn (by omega), rw' 4 (by decide)]
    exact ⟨vp_in_nI (by omega) (by decide), h⟩
  · refine sgX5_pupilOf ⟨fun z => absurd z (by decide), fun _ => ⟨fun z => absurd z (by decide), fun _ => ⟨fun z => absurd z (by decide), fun _ => ⟨fun z => absurd z (by decide), fun _ => ⟨fun z => absurd z (by decide), fun _ => ⟨fun _ => mo_slotBy hR hI hp ⟨rfl, rfl, ?_⟩, fun z => absurd rfl z⟩⟩⟩⟩⟩⟩
    dsimp only [cI]
    rw [tell_eq2 hc (w := 0) (by decide) (by decide)]
    exact h
  · refine sgX5_pupilOf ⟨fun z => absurd z (by decide), fun _ => ⟨fun z => absurd z (by decide), fun _ => ⟨fun z => absurd z (by decide), fun _ => ⟨fun z => absurd z (by decide), fun _ => ⟨fun z => absurd z (by decide), fun _ => ⟨fun z => absurd z (by decide), fun _ => ⟨fun _ => mo_slotBy hR hI hp ⟨rfl, rfl, ?_⟩, fun z => absurd rfl z⟩⟩⟩⟩⟩⟩⟩
    dsimp only [cI]
    rw [tell_eq2 hc (w := 1) (by decide) (by decide)]
    exact h
  · refine sgX5_pupilOf ⟨fun z => absurd z (by decide), fun _ => ⟨fun z => absurd z (by decide), fun _ => ⟨fun z => absurd z (by decide), fun _ => ⟨fun z => absurd z (by decide), fun _ => ⟨fun z => absurd z (by decide), fun _ => ⟨fun z => absurd z (by decide), fun _ => ⟨fun z => absurd z (by decide), fun _ => ⟨fun _ => mo_slotBy hR hI hp ⟨rfl, rfl, ?_⟩, fun z => absurd rfl z⟩⟩⟩⟩⟩⟩⟩⟩
    dsimp only [cI]
    rw [tell_eq2 hc (w := 2) (by decide) (by decide)]
    exact h
  · refine sgX5_pupilOf ⟨fun z => absurd z (by decide), fun _ => ⟨fun z => absurd z (by decide), fun _ => ⟨fun z => absurd z (by decide), fun _ => ⟨fun z => absurd z (by decide), fun _ => ⟨fun z => absurd z (by decide), fun _ => ⟨fun z => absurd z (by decide), fun _ => ⟨fun z => absurd z (by decide), fun _ => ⟨fun z => absurd z (by decide), fun _ => ⟨fun _ => ?_, fun z => absurd rfl z⟩⟩⟩⟩⟩⟩⟩⟩⟩
    rw [of5, ixn (by omega), rw' 5 (by decide)]
    exact ⟨vp_in_nI (by omega) (by decide), h⟩
  · refine sgX5_pupilOf ⟨fun z => absurd z (by decide), fun _ => ⟨fun z => absurd z (by decide), fun _ => ⟨fun z => absurd z (by decide), fun _ => ⟨fun z => absurd z (by decide), fun _ => ⟨fun z => absurd z (by decide), fun _ => ⟨fun z => absurd z (by decide), fun _ => ⟨fun z => absurd z (by decide), fun _ => ⟨fun z => absurd z (by decide), fun _ => ⟨fun z => absurd z (by decide), fun _ => ⟨fun _ => ?_, fun z => absurd rfl z⟩⟩⟩⟩⟩⟩⟩⟩⟩⟩
    rw [of0, ixn (by omega), rw' 0 (by decide)]
    simp only [cPup] at h
    refine ⟨vp_in_nI (by omega) (by decide), fun q => ?_, fun q => mo_placeInOrder hR hI hK hp ⟨rfl, rfl, ?_⟩⟩
    · rw [if_neg q] at h
      exact h
    · rw [if_pos q] at h
      exact h
  · refine sgX5_pupilOf ⟨fun z => absurd z (by decide), fun _ => ⟨fun z => absurd z (by decide), fun _ => ⟨fun z => absurd z (by decide), fun _ => ⟨fun z => absurd z (by decide), fun _ => ⟨fun z => absurd z (by decide), fun _ => ⟨fun z => absurd z (by decide), fun _ => ⟨fun z => absurd z (by decide), fun _ => ⟨fun z => absurd z (by decide), fun _ => ⟨fun z => absurd z (by decide), fun _ => ⟨fun z => absurd z (by decide), fun _ => ?_⟩⟩⟩⟩⟩⟩⟩⟩⟩⟩
    rw [of7, ixn (by omega), rw' 7 (by decide)]
    exact ⟨vp_in_nI (by omega) (by decide), h⟩
theorem mo_pupil {x y : Int32} (hR : Rel E P τ (m.1 9 21 0)) (hI : Iv K E P τ) (hK : K < 2 ^ 31) (h3 : ¬ (∃ p, p < P ∧ x = nI p) → Q (.inl (some (pI 0))) (setI m 20 9 0 0 1) c n) (h2 : ∀ p, p < P → x = nI p → ¬ (∃ w, w ≤ 10 ∧ y = nI w) → Q (.inl (some (pI 0))) (setI m 20 9 0 0 2) c n) (h : ∀ p w, p < P → x = nI p → w ≤ 10 → y = nI w → Q (.inl (some (pI (cPup P τ p w)))) (setI m 20 9 0 0 0) c n) : Wq g (d + 4) MX5_pupil c n 0 [some (pO 20 9 0), some (pI x), some (pI y)] [] m Q := by
  refine sgX5_pupil ?_
  rw [ix_2, hR.h (k := 2) (by decide), hI.hP, in_1 hI.P12, show (10 : Int32) = nI 10 from rfl, inX (by decide)]
  refine ⟨fun ⟨p, hp, e⟩ => ⟨fun ⟨w, hw, e2⟩ => ?_, h2 p hp e⟩, h3⟩
  subst e e2
  exact mo_pupilOf (m := setI m 20 9 0 0 0) (by rw [flR]; exact hR) hI hK hp (by omega) ⟨rfl, rfl, h p w hp rfl hw rfl⟩
theorem mo_examiner {x y : Int32} (hR : Rel E P τ (m.1 9 21 0)) (hI : Iv K E P τ) (h3 : ¬ (∃ p, p < E ∧ x = nI p) → Q (.inl (some (pI 0))) (setI m 20 9 0 0 1) c n) (h2 : ∀ p, p < E → x = nI p → ¬ (∃ w, w ≤ 8 ∧ y = nI w) → Q (.inl (some (pI 0))) (setI m 20 9 0 0 2) c n) (h : ∀ p w, p < E → x = nI p → w ≤ 8 → y = nI w → Q (.inl (some (pI (cExa τ p w)))) (setI m 20 9 0 0 0) c n) : Wq g (d + 2) MX5_examiner c n 0 [some (pO 20 9 0), some (pI x), some (pI y)] [] m Q := by
  have hE := hI.E4
  refine sgX5_examiner ?_
  rw [ix_1, hR.h (k := 1) (by decide), hI.hE, in_1 (by omega), show (8 : Int32) = nI 8 from rfl, inX (by decide)]
  refine ⟨fun ⟨p, hp, e⟩ => ⟨fun ⟨w, hw, e2⟩ => ?_, h2 p hp e⟩, h3⟩
  subst e e2
  exact mo_examinerOf (m := setI m 20 9 0 0 0) (by rw [flR]; exact hR) hI hp (by omega) ⟨rfl, rfl, h p w hp rfl hw rfl⟩
theorem mo_slot {x y z : Int32} (hR : Rel E P τ (m.1 9 21 0)) (hI : Iv K E P τ) (h3 : ¬ (∃ p, p < E ∧ x = nI p) → Q (.inl (some (pI 0))) (setI m 20 9 0 0 1) c n) (h2 : ∀ p, p < E → x = nI p → ¬ ((∃ D, D ≤ 9 ∧ y = nI D) ∧ ∃ k, k ≤ 3 ∧ z = nI k) → Q (.inl (some (pI 0))) (setI m 20 9 0 0 2) c n) (h : ∀ e D k, e < E → x = nI e → D ≤ 9 → y = nI D → k ≤ 3 → z = nI k → Q (.inl (some (pI (τ 2 0 (16 * D + 4 * k + e))))) (setI m 20 9 0 0 0) c n) : Wq g (d + 2) MX5_slot c n 0 [some (pO 20 9 0), some (pI x), some (pI y), some (pI z)] [] m Q := by
  have hE := hI.E4
  refine sgX5_slot ?_
  rw [ix_1, hR.h (k := 1) (by decide), hI.hE, in_1 (by omega), show (9 : Int32) = nI 9 from rfl, show (3 : Int32) = nI 3 from rfl, inX (by decide), inX (by decide)]
  refine ⟨fun ⟨p, hp, e⟩ => ⟨fun q => h2 p hp e fun w => q w.1, fun q => ⟨fun q2 => ?_, fun q2 => h2 p hp e fun w => q2 w.2⟩⟩, h3⟩
  obtain ⟨D, hD, e2⟩ := q
  obtain ⟨k, hk, e3⟩ := q2
  subst e e2 e3
  rw [show nI 9 = 9 from rfl, at_n, ixn (by omega), flR]
  have ei : m.1 9 21 0 (9 + 40 * p + 4 * D + k) = τ 2 0 (16 * D + 4 * k + p) := by
    have := hR.ce' (i := 16 * D + 4 * k + p) (by omega) (by omega)
    rwa [show 9 + 40 * ((16 * D + 4 * k + p) % 4) + (16 * D + 4 * k + p) / 4 = 9 + 40 * p + 4 * D + k by omega] at this
  rw [ei]
  exact ⟨vp_in_nI (by omega) (by decide), h p D k hp rfl hD rfl hk rfl⟩
theorem mo_count {x : Int32} (hR : Rel E P τ (m.1 9 21 0)) (hI : Iv K E P τ) (hS : m.1 9 20 0 4 = nI S) (h2 : ¬ (∃ w, w ≤ 14 ∧ x = nI w) → Q (.inl (some (pI 0))) (setI m 20 9 0 0 1) c n) (h : ∀ w, w ≤ 14 → x = nI w → Q (.inl (some (pI (cCnt E P S τ w)))) (setI m 20 9 0 0 0) c n) : Wq g (d + 5) MX5_count c n 0 [some (pO 20 9 0), some (pI x)] [] m Q := by
  refine sgX5_count ?_
  rw [show (14 : Int32) = nI 14 from rfl, inX (by decide)]
  refine ⟨h2, fun ⟨w, hw, e⟩ => ?_⟩
  subst e
  exact mo_counted (m := setI m 20 9 0 0 0) (by rw [flR]; exact hR) hI (by rw [setI_eq, rset_s, tI_k (by decide)]; exact hS) (by omega) ⟨rfl, rfl, h w hw rfl⟩
theorem mo_setting {x : Int32} (hR : Rel E P τ (m.1 9 21 0)) (h3 : ¬ (∃ k, k ≤ 3 ∧ x = nI k) → Q (.inl (some (pI 0))) (setI m 20 9 0 0 1) c n) (h : ∀ k, k ≤ 3 → x = nI k → Q (.inl (some (pI (τ 1 0 k)))) (setI m 20 9 0 0 0) c n) : Wq g (d + 1) MX5_setting c n 0 [some (pO 20 9 0), some (pI x)] [] m Q := by
  refine sgX5_setting ?_
  rw [show (3 : Int32) = nI 3 from rfl, inX (by decide)]
  refine ⟨h3, fun ⟨w, hw, e⟩ => ?_⟩
  subst e
  rw [show (5 : Int32) = nI 5 from rfl, nI_add, ixn (by omega), flR, hR.s (by omega)]
  exact ⟨vp_in_nI (by omega) (by decide), h w hw rfl⟩
theorem mo_earliest {x y : Int32} (hR : Rel E P τ (m.1 9 21 0)) (hI : Iv K E P τ) (h3 : ¬ (∃ p, p < P ∧ x = nI p) → Q (.inl (some (pI 0))) (setI m 20 9 0 0 1) c n) (h2 : ∀ p, p < P → x = nI p → ¬ (∃ w, w ≤ 2 ∧ y = nI w) → Q (.inl (some (pI 0))) (setI m 20 9 0 0 2) c n) (h : ∀ p w, p < P → x = nI p → w ≤ 2 → y = nI w → Q (.inl (some (pI (cTell (fnd (cCan τ p) 160 0) w)))) (setI m 20 9 0 0 0) c n) : Wq g (d + 4) MX5_earliest c n 0 [some (pO 20 9 0), some (pI x), some (pI y)] [] m Q := by
  refine sgX5_earliest ?_
  rw [ix_2, hR.h (k := 2) (by decide), hI.hP, in_1 hI.P12, show (2 : Int32) = nI 2 from rfl, inX (by decide)]
  refine ⟨fun ⟨p, hp, e⟩ => ⟨fun ⟨w, hw, e2⟩ => ?_, h2 p hp e⟩, h3⟩
  subst e e2
  refine mo_earliestOf (m := setI m 20 9 0 0 0) (by rw [flR]; exact hR) hI hp ⟨rfl, rfl, ?_⟩
  dsimp only [cI]
  rw [tell_eq2 (w := w) (fun i hi => by obtain ⟨_, h2, _⟩ := fnd_some hi; omega) rfl (by omega)]
  exact h p w hp rfl hw rfl
theorem mo_ifTested {x y : Int32} (hR : Rel E P τ (m.1 9 21 0)) (hI : Iv K E P τ) (h3 : ¬ ((∃ p, p < P ∧ x = nI p) ∧ ∃ e, e < E ∧ y = nI e) → Q (.inl (some (pI 0))) (setI m 20 9 0 0 1) c n) (h : ∀ p e, p < P → x = nI p → e < E → y = nI e → Q (.inl (some (pI (nI (cRoute (τ 6 e) (τ 4 p 3)))))) (setI m 20 9 0 0 0) c n) : Wq g (d + 2) MX5_ifTested c n 0 [some (pO 20 9 0), some (pI x), some (pI y)] [] m Q := by
  have hE := hI.E4
  refine sgX5_ifTested ?_
  rw [ix_2, ix_1, hR.h (k := 2) (by decide), hR.h (k := 1) (by decide), hI.hP, hI.hE, in_1 hI.P12, in_1 (by omega)]
  refine ⟨fun q => h3 fun z => q z.1, fun q => ⟨fun q2 => h3 fun z => q2 z.2, fun q2 => ?_⟩⟩
  obtain ⟨p, hp, e1⟩ := q
  obtain ⟨e, he, e2⟩ := q2
  subst e1 e2
  exact mo_routeFor (m := setI m 20 9 0 0 0) (by rw [flR]; exact hR) hI hp he ⟨rfl, rfl, h p e hp rfl he rfl⟩
theorem mo_append {x : Int32} (hl : m.1 9 20 0 6 = nI L) (hL : L ≤ 60) (h1 : ¬ ((¬ x < 33) ∧ ¬ 126 < x) → Q (.inl (some (pI 0))) (setI m 20 9 0 0 1) c n) (h2 : ((¬ x < 33) ∧ ¬ 126 < x) → L = 60 → Q (.inl (some (pI 0))) (setI m 20 9 0 0 2) c n) (h : ((¬ x < 33) ∧ ¬ 126 < x) → L < 60 → Q (.inl (some (pI (nI (L + 1))))) (rset m 9 (tI (tI (tI (m.1 9) 20 0 0 0) 24 0 L x) 20 0 6 (nI (L + 1)))) c n) : Wq g (d + 1) MX5_append c n 0 [some (pO 20 9 0), some (pI x)] [] m Q := by
  refine sgX5_append ⟨fun q => ?_, h1⟩
  rw [hl]
  by_cases e : L = 60
  · subst e
    exact ⟨fun z => absurd rfl z, fun _ => h2 q rfl⟩
  · have n60 : ¬ nI L = 60 := fun z => e (nI_i (by omega) (by decide) (show nI L = nI 60 from z))
    refine ⟨fun _ => ?_, fun z => absurd z n60⟩
    have := h q (by omega)
    simp (disch := omega) only [setI_eq, rset_rset, rset_s, tI_s, tI_t, tI_j, tI_k, hl, ixn, nI_1]
    exact ⟨vp_in_nI (by omega) (by decide), this⟩
theorem mo_clearBuffer (hl : m.1 9 20 0 6 = nI L) (h : Q (.inl (some (pI (nI L)))) (rset m 9 (tI (tI (m.1 9) 20 0 0 0) 20 0 6 0)) c n) : Wq g d MX5_clearBuffer c n 0 [some (pO 20 9 0)] [] m Q := by
  refine sgX5_clearBuffer ?_
  simp (disch := omega) only [setI_eq, rset_rset, rset_s, tI_s, tI_t, tI_j, tI_k, hl]
  exact h
end M9
