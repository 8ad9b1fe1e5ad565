/-! THE MODEL: what if a morning is cancelled -/
section MC
variable {g : GG} {d : Nat} {c n : Nat} {m : PM} {Q : Ou → PM → Nat → Nat → Prop} {K E P S L : Nat} {τ : Nat → Nat → Nat → Int32}
theorem mo_step {e D k : Nat} {A x4 x5 x6 a b : Int32} {σ : Nat → Nat → Nat → Int32} (hR : Rel E P σ (m.1 9 21 0)) (hIs : Iv K E P σ) (hI : Iv K E P τ) (he : e < E) (hD : D < 10) (hk : k < 2) (es : σ = give P (fCan0 P τ e D)) (hx : (if k = 0 then x4 else x5) = τ 2 0 (16 * D + 4 * k + e)) (h : Wq g (d + 6) MX5_cancelled c n 76 [some (pO 20 9 0), none, some (pI (nI D)), some (pI A), some (pI x4), some (pI x5), some (pI x6), some (pI (a + cWai P τ e D k)), some (pI (b + cLat P τ e D k)), some (pI (nI (k + 1))), none, none] [] m Q) : Wq g (d + 6) MX5_cancelled c n 76 [some (pO 20 9 0), none, some (pI (nI D)), some (pI A), some (pI x4), some (pI x5), some (pI x6), some (pI a), some (pI b), some (pI (nI k)), none, none] [] m Q := by
  have hP := hI.P12
  have hE := hI.E4
  have hi : 16 * D + 4 * k + e < 160 := by omega
  have hce := Ce_neg hP (hI.ce hi)
  have hpu := isPu_iff hI hi
  subst es
  generalize ex : τ 2 0 (16 * D + 4 * k + e) = x at *
  have hn : isPu P x = true ↔ ¬ x < 0 := by rw [hpu, hce]
  have x0 : 0 ≤ x ↔ ¬ x < 0 := ⟨fun z => Int32.not_lt.mpr z, fun z => Int32.not_lt.mp z⟩
  have neg : x < 0 → Wq g (d + 6) MX5_cancelled c n 76 [some (pO 20 9 0), none, some (pI (nI D)), some (pI A), some (pI x4), some (pI x5), some (pI x6), some (pI (a + 0)), some (pI (b + 0)), some (pI (nI k + 1)), none, none] [] m Q := fun z => by
    have z' : ¬ isPu P x = true := fun y => (hn.mp y) z
    unfold cWai cLat at h
    rw [ex, if_neg z', if_neg z'] at h
    rw [nI_1]
    exact h
  have pos : ¬ x < 0 → Wp g (d + 5) MX5_slotBy 0 [some (pO 20 9 0), some (pI x)] [] m (cI fun r4 m5 => ((x < 0 → ((¬ r4 = (-1) → Wq g (d + 6) MX5_cancelled c n 76 [some (pO 20 9 0), none, some (pI (nI D)), some (pI A), some (pI x4), some (pI x5), some (pI x6), some (pI (a + 0)), some (pI (b + ((r4 / 16) - nI D))), some (pI (nI k + 1)), none, none] [] m5 Q) ∧ (r4 = (-1) → Wq g (d + 6) MX5_cancelled c n 76 [some (pO 20 9 0), none, some (pI (nI D)), some (pI A), some (pI x4), some (pI x5), some (pI x6), some (pI (a + 0)), some (pI (b + 0)), some (pI (nI k + 1)), none, none] [] m5 Q))) ∧ (¬ x < 0 → ((¬ r4 = (-1) → ((¬ r4 = (-1) → Wq g (d + 6) MX5_cancelled c n 76 [some (pO 20 9 0), none, some (pI (nI D)), some (pI A), some (pI x4), some (pI x5), some (pI x6), some (pI (a + 0)), some (pI (b + ((r4 / 16) - nI D))), some (pI (nI k + 1)), none, none] [] m5 Q) ∧ (r4 = (-1) → Wq g (d + 6) MX5_cancelled c n 76 [some (pO 20 9 0), none, some (pI (nI D)), some (pI A), some (pI x4), some (pI x5), some (pI x6), some (pI (a + 0)), some (pI (b + 0)), some (pI (nI k + 1)), none, none] [] m5 Q))) ∧ (r4 = (-1) → ((¬ r4 = (-1) → Wq g (d + 6) MX5_cancelled c n 76 [some (pO 20 9 0), none, some (pI (nI D)), some (pI A), some (pI x4), some (pI x5), some (pI x6), some (pI (a + 1)), some (pI (b + ((r4 / 16) - nI D))), some (pI (nI k + 1)), none, none] [] m5 Q) ∧ (r4 = (-1) → Wq g (d + 6) MX5_cancelled c n 76 [some (pO 20 9 0), none, some (pI (nI D)), some (pI A), some (pI x4), some (pI x5), some (pI x6), some (pI (a + 1)), some (pI (b + 0)), some (pI (nI k + 1)), none, none] [] m5 Q))))))) := fun z => by
    obtain ⟨p, hp, ep⟩ := hce.mp z
    have z' := hn.mpr z
    unfold cWai cLat cNew at h
    rw [ex, if_pos z', if_pos z'] at h
    rw [nI_1]
    rw [ep] at h z ⊢
    refine mo_slotBy hR hIs hp ⟨rfl, rfl, ?_⟩
    dsimp only [cI]
    refine ⟨fun y => absurd y z, fun _ => ?_⟩
    cases ec : cCell (give P (fCan0 P τ e D)) (nI p) with
    | none =>
      rw [ec] at h
      rw [if_pos (show cDay none = -1 from rfl), if_pos (show cDay none = -1 from rfl)] at h
      exact ⟨fun y => absurd rfl y, fun _ => ⟨fun y => absurd rfl y, fun _ => h⟩⟩
    | some i =>
      have hi := cCell_lt ec
      rw [ec] at h
      rw [if_neg (show ¬ cDay (some i) = -1 from nI_m1 (by omega)), if_neg (show ¬ cDay (some i) = -1 from nI_m1 (by omega))] at h
      simp only [oI]
      rw [dv16 (by omega)]
      exact ⟨fun _ => ⟨fun _ => h, fun y => absurd y (nI_m1 (by omega))⟩, fun y => absurd y (nI_m1 (by omega))⟩
  refine sgX5_cancelled_76 ⟨fun q => absurd q (ngeL hk (by decide)), fun _ => ⟨fun k0 => ?_, fun k0 => ?_⟩⟩
  · have : k = 1 := by
      have : k = 0 ∨ k = 1 := by omega
      rcases this with rfl | rfl
      · exact absurd rfl k0
      · rfl
    subst this
    rw [if_neg (by decide)] at hx
    rw [hx, x0]
    rw [hx] at pos neg
    exact ⟨pos, fun z => ⟨fun y => neg y, fun y => absurd y z⟩⟩
  · have : k = 0 := nI_i (by omega) (by decide) (show nI k = nI 0 from k0)
    subst this
    rw [if_pos rfl] at hx
    rw [hx, x0]
    rw [hx] at pos neg
    exact ⟨pos, fun z => ⟨fun y => neg y, fun y => absurd y z⟩⟩
theorem mo_cancelled {e D w : Nat} (hR : Rel E P τ (m.1 9 21 0)) (hI : Iv K E P τ) (hK : K + 9 < 2 ^ 31) (he : e < E) (hD : D < 10) (hw : w < 3) (h : ∀ μ, (∀ t, t ≠ 21 → t ≠ 22 → t ≠ 25 → μ t = m.1 9 t) → (∀ j, j < 341 → μ 21 0 j = m.1 9 21 0 j) → Q (.inl (some (pI (cIf P τ e D w)))) (rset m 9 μ) c n) : Wq g (d + 6) MX5_cancelled c n 0 [some (pO 20 9 0), some (pI (nI e)), some (pI (nI D)), some (pI (nI w))] [] m Q := by
  have hP := hI.P12
  have hE := hI.E4
  have ei : ∀ k, k < 4 → m.1 9 21 0 (9 + 40 * e + 4 * D + k) = τ 2 0 (16 * D + 4 * k + e) := fun k hk => by
    have := hR.ce' (i := 16 * D + 4 * k + e) (by omega) (by omega)
    rwa [show 9 + 40 * ((16 * D + 4 * k + e) % 4) + (16 * D + 4 * k + e) / 4 = 9 + 40 * e + 4 * D + k by omega] at this
  have hIs : Iv (K + 4) E P (give P (fCan0 P τ e D)) := give_Iv (fCan0_Iv hI he hD (by omega))
  refine sgX5_cancelled ?_
  rw [show ((9 + (40 * nI e)) + (4 * nI D)) + (0 : Int32) = nI (9 + 40 * e + 4 * D + 0) from at_n (k := 0), show ((9 + (40 * nI e)) + (4 * nI D)) + (1 : Int32) = nI (9 + 40 * e + 4 * D + 1) from at_n (k := 1), ixn (by omega), ixn (by omega), ei 0 (by decide), ei 1 (by decide)]
  refine ⟨vp_in_nI (by omega) (by decide), vp_in_nI (by omega) (by decide), ?_⟩
  have key := Wq.up (g := g) (d := d + 6) (M := MX5_cancelled) (c := c) (n := n) (pc := 29) (Q := Q) (S := Nat → Nat → Nat → Int32) 341 (fun k _ => [some (pO 20 9 0), some (pI (nI e)), some (pI (nI D)), some (pI (nI w)), some (pI (τ 2 0 (16 * D + 4 * 0 + e))), some (pI (τ 2 0 (16 * D + 4 * 1 + e))), some (pI (nI k)), none, none, none, none, none]) (fun _ ν => rset m 9 ν) (fun k ν => (∀ t, t ≠ 22 → ν t = m.1 9 t) ∧ (∀ j, j < k → ν 22 0 j = m.1 9 21 0 j)) (fun ν hL => ?_) (fun k ν hk hL ih => ?_) 0 (m.1 9) (by omega) ⟨fun _ _ => rfl, fun j hj => absurd hj (Nat.not_lt_zero j)⟩
  · rw [rset_id] at key
    exact key
  · obtain ⟨f, a⟩ := hL
    refine sgX5_cancelled_29 ⟨fun _ => ?_, fun q => absurd (geL (Nat.le_refl 341) (by decide)) q⟩
    refine mo_cancels (m := rset m 9 ν) (τ := τ) (by rw [rset_s, f 21 (by decide)]; exact hR) hI (by omega) he hD fun μ f2 r2 => ⟨rfl, rfl, ?_⟩
    rw [rset_s] at f2
    rw [rset_rset]
    dsimp only [cI]
    have hR2 : Rel E P (give P (fCan0 P τ e D)) ((rset m 9 μ).1 9 21 0) := by rw [rset_s]; exact r2
    refine mo_step (k := 0) hR2 hIs (Iv_up (by omega) hI) he hD (by decide) rfl (if_pos rfl) ?_
    refine mo_step (k := 1) hR2 hIs (Iv_up (by omega) hI) he hD (by decide) rfl (if_neg (by decide)) ?_
    rw [Int32.zero_add]
    refine sgX5_cancelled_76 ⟨fun _ => ?_, fun q => absurd (geL (Nat.le_refl 2) (by decide)) q⟩
    refine Wq.up (S := Nat → Nat → Nat → Int32) 341 (fun k _ => [some (pO 20 9 0), none, none, some (pI (nI w)), none, none, some (pI (nI (cMoved P τ e D))), some (pI (cWai P τ e D 0 + cWai P τ e D 1)), some (pI (1000 + cLat P τ e D 0 + cLat P τ e D 1)), some (pI (nI k)), none, none]) (fun _ ν => rset m 9 ν) (fun k ν2 => (∀ t, t ≠ 21 → t ≠ 25 → ν2 t = ν t) ∧ (∀ j, j < k → ν2 21 0 j = m.1 9 21 0 j)) (fun ν2 hL => ?_) (fun k ν2 hk hL ih => ?_) 0 μ (by omega) ⟨fun t q r => f2 t q r, fun j hj => absurd hj (Nat.not_lt_zero j)⟩
    · obtain ⟨b1, b2⟩ := hL
      refine sgX5_cancelled_165 ⟨fun _ => ?_, fun q => absurd (geL (Nat.le_refl 341) (by decide)) q⟩
      have h' := h ν2 (fun t q r s => by rw [b1 t q s, f t r]) b2
      unfold cIf at h'
      have : w = 0 ∨ w = 1 ∨ w = 2 := by omega
      rcases this with rfl | rfl | rfl
      · exact ⟨fun z => absurd rfl z, fun _ => h'⟩
      · exact ⟨fun _ => ⟨fun z => absurd rfl z, fun _ => h'⟩, fun z => absurd z (by decide)⟩
      · exact ⟨fun _ => ⟨fun _ => h', fun z => absurd z (by decide)⟩, fun z => absurd z (by decide)⟩
    · obtain ⟨b1, b2⟩ := hL
      refine sgX5_cancelled_165 ⟨fun q => absurd q (ngeL hk (by decide)), fun _ => ?_⟩
      rw [ixn (by omega), nI_1, rset_s, b1 22 (by decide) (by decide), a k hk, setI_eq, rset_rset, rset_s]
      refine ⟨vp_in_nI (by omega) (by decide), vp_in_nI (by omega) (by decide), ih _ ⟨fun t q r => by rw [tI_t q]; exact b1 t q r, fun j hj => ?_⟩⟩
      by_cases z : j = k
      · subst z
        rw [tI_s]
      · rw [tI_k z]
        exact b2 j (by omega)
  · obtain ⟨f, a⟩ := hL
    refine sgX5_cancelled_29 ⟨fun q => absurd q (ngeL hk (by decide)), fun _ => ?_⟩
    rw [ixn (by omega), nI_1, rset_s, f 21 (by decide), setI_eq, rset_rset, rset_s]
    refine ⟨vp_in_nI (by omega) (by decide), vp_in_nI (by omega) (by decide), ih _ ⟨fun t q => by rw [tI_t q]; exact f t q, fun j hj => ?_⟩⟩
    by_cases z : j = k
    · subst z
      rw [tI_s]
    · rw [tI_k z]
      exact a j (by omega)
theorem mo_ifCancelled {x y z : Int32} (hR : Rel E P τ (m.1 9 21 0)) (hI : Iv K E P τ) (hK : K + 9 < 2 ^ 31) (h3 : ¬ (∃ p, p < E ∧ x = nI p) → Q (.inl (some (pI 0))) (setI m 20 9 0 0 1) c n) (h2 : ∀ p, p < E → x = nI p → ¬ ((∃ D, D ≤ 9 ∧ y = nI D) ∧ ∃ k, k ≤ 2 ∧ z = nI k) → Q (.inl (some (pI 0))) (setI m 20 9 0 0 2) c n) (h : ∀ e D w, e < E → x = nI e → D ≤ 9 → y = nI D → w ≤ 2 → z = nI w → ∀ μ, (∀ t, t ≠ 21 → t ≠ 22 → t ≠ 25 → μ t = tI (m.1 9) 20 0 0 0 t) → (∀ j, j < 341 → μ 21 0 j = m.1 9 21 0 j) → Q (.inl (some (pI (cIf P τ e D w)))) (rset m 9 μ) c n) : Wq g (d + 7) MX5_ifCancelled c n 0 [some (pO 20 9 0), some (pI x), some (pI y), some (pI z)] [] m Q := by
  have hE := hI.E4
  refine sgX5_ifCancelled ?_
  rw [ix_1, hR.h (k := 1) (by decide), hI.hE, in_1 (by omega), show (9 : Int32) = nI 9 from rfl, show (2 : Int32) = nI 2 from rfl, inX (by decide), inX (by decide)]
  refine ⟨fun ⟨p, hp, e⟩ => ⟨fun q => h2 p hp e fun w => q w.1, fun q => ⟨fun q2 => ?_, fun q2 => h2 p hp e fun w => q2 w.2⟩⟩, h3⟩
  obtain ⟨D, hD, e2⟩ := q
  obtain ⟨k, hk, e3⟩ := q2
  subst e e2 e3
  refine mo_cancelled (m := setI m 20 9 0 0 0) (by rw [flR]; exact hR) hI hK hp (by omega) (by omega) fun μ f a => ⟨rfl, rfl, ?_⟩
  rw [setI_eq, rset_rset]
  rw [setI_eq, rset_s] at f a
  exact h p D k hp rfl hD rfl hk rfl μ f (fun j hj => by rw [a j hj, tI_t (by decide)])
end MC
