/-! THE MODEL: a test; the next day -/
theorem at_0 {e k : Nat} : ((9 + (40 * nI e)) + (4 * (0 : Int32))) + nI k = nI (9 + 40 * e + k) := by
  rw [show (0 : Int32) = nI 0 from rfl, at_n]
  exact congrArg nI (by omega)
theorem at_j {e k : Nat} : (9 + (40 * nI e)) + nI k = nI (9 + 40 * e + k) := by
  have := at_n (e := e) (D := 0) (k := k)
  rw [show (4 * nI 0 : Int32) = 0 by decide, Int32.add_zero] at this
  exact this
theorem cN_s {f : Nat → Bool} {n : Nat} : cN f (n + 1) = cN f n + (if f n then 1 else 0) := by
  rw [cN]
theorem cN_perm {f : Nat → Bool} : cN (fun j => f (4 * (j % 4) + j / 4)) 16 = cN f 16 := by
  have a : cN (fun j => f (4 * (j % 4) + j / 4)) 16 = 0 + (if f 0 then 1 else 0) + (if f 4 then 1 else 0) + (if f 8 then 1 else 0) + (if f 12 then 1 else 0) + (if f 1 then 1 else 0) + (if f 5 then 1 else 0) + (if f 9 then 1 else 0) + (if f 13 then 1 else 0) + (if f 2 then 1 else 0) + (if f 6 then 1 else 0) + (if f 10 then 1 else 0) + (if f 14 then 1 else 0) + (if f 3 then 1 else 0) + (if f 7 then 1 else 0) + (if f 11 then 1 else 0) + (if f 15 then 1 else 0) := by
    rw [cN_s, cN_s, cN_s, cN_s, cN_s, cN_s, cN_s, cN_s, cN_s, cN_s, cN_s, cN_s, cN_s, cN_s, cN_s, cN_s]
    rfl
  have b : cN f 16 = 0 + (if f 0 then 1 else 0) + (if f 1 then 1 else 0) + (if f 2 then 1 else 0) + (if f 3 then 1 else 0) + (if f 4 then 1 else 0) + (if f 5 then 1 else 0) + (if f 6 then 1 else 0) + (if f 7 then 1 else 0) + (if f 8 then 1 else 0) + (if f 9 then 1 else 0) + (if f 10 then 1 else 0) + (if f 11 then 1 else 0) + (if f 12 then 1 else 0) + (if f 13 then 1 else 0) + (if f 14 then 1 else 0) + (if f 15 then 1 else 0) := by
    rw [cN_s, cN_s, cN_s, cN_s, cN_s, cN_s, cN_s, cN_s, cN_s, cN_s, cN_s, cN_s, cN_s, cN_s, cN_s, cN_s]
    rfl
  rw [a, b]
  omega
theorem cN_cut {f : Nat → Bool} {n k : Nat} (h : n ≤ k) (hz : ∀ j, n ≤ j → j < k → f j = false) : cN f k = cN f n := by
  induction k with
  | zero => rw [show n = 0 by omega]
  | succ k ih =>
    by_cases e : n = k + 1
    · rw [e]
    · rw [cN, hz k (by omega) (by omega), if_neg (by decide)]
      exact ih (by omega) fun j h1 h2 => hz j h1 (by omega)
/-- what the model's row shows in the midst of the next day -/
def GoI (E P : Nat) (τ : Nat → Nat → Nat → Int32) (s0 s : Nat → Int32) (e k1 k2 : Nat) : Prop :=
  (∀ k, k < 9 → s k = s0 k) ∧ (∀ k, 169 ≤ k → k < 197 → s k = s0 k) ∧
  (∀ j, j < 160 → s (9 + j) = if j < 40 * e + k2 then (if j % 40 < 36 then s0 (9 + j + 4) else -1) else s0 (9 + j)) ∧
  (∀ p, p < P → ∀ k, k < 9 → (k = 0 ∧ (∃ i, i < 16 ∧ (i % 4 < e ∨ (i % 4 = e ∧ i / 4 < k1)) ∧ τ 2 0 i = nI p) → s (197 + 12 * p + k) = 0) ∧ (¬ (k = 0 ∧ ∃ i, i < 16 ∧ (i % 4 < e ∨ (i % 4 = e ∧ i / 4 < k1)) ∧ τ 2 0 i = nI p) → s (197 + 12 * p + k) = s0 (197 + 12 * p + k)))
theorem fGo0_2 {E P i : Nat} {τ : Nat → Nat → Nat → Int32} (hi : i < 160) (hE : i % 4 < E) : fGo0 E P τ 2 0 i = if i < 144 then τ 2 0 (i + 16) else -1 := by
  by_cases q : i < 144
  · simp [fGo0, q]
  · simp [fGo0, q, hi, hE]
theorem fGo0_4 {E P p k : Nat} {τ : Nat → Nat → Nat → Int32} : fGo0 E P τ 4 p k = if k = 0 ∧ p < P ∧ inC τ 16 p = true then 0 else τ 4 p k := by
  simp [fGo0]
section M3
variable {g : GG} {d : Nat} {c n : Nat} {m : PM} {Q : Ou → PM → Nat → Nat → Prop} {K E P : Nat} {τ : Nat → Nat → Nat → Int32}
theorem mo_tests {p i : Nat} {y : Int32} (hR : Rel E P τ (m.1 9 21 0)) (hI : Iv K E P τ) (hp : p < P) (ei : cCell τ (nI p) = some i) (h0 : y = 0 → ∀ μ, Fr μ (m.1 9) → Rel E P (fTestF τ p i) (μ 21 0) → Q (.inl (some (pI (nI (cRt τ p i))))) (rset m 9 μ) c n) (h1 : ¬ y = 0 → ∀ μ, Fr μ (m.1 9) → Rel E P (fTestP τ p i) (μ 21 0) → Q (.inl (some (pI (nI (cRt τ p i))))) (rset m 9 μ) c n) : Wq g (d + 3) MX5_tests c n 0 [some (pO 20 9 0), some (pI (nI p)), some (pI y)] [] m Q := by
  have hP := hI.P12
  have hE := hI.E4
  have hi : i < 160 := cCell_lt ei
  have hiE : i % 4 < E := hI.ceE' hp hi (cCell_some ei).2
  have hrt : cRt τ p i < 4 := cRt_lt
  have r0 := hR.h (k := 0) (by decide)
  have r5 : m.1 9 21 0 5 = τ 1 0 0 := hR.s (k := 0) (by decide)
  have r1 := hR.p hp (k := 1) (by decide)
  have R1 := Rel_ce hR hE hi (-2)
  have R2 := Rel_ro R1 hE (f := i % 4) hiE hrt
  have R4 := Rel_pu (Rel_pu R2 hE (q := p) (k := 3) (by decide) (nI (cRt τ p i))) hE (q := p) (k := 4) (by decide) (nI (i % 4))
  have e4 : tI (tI (tI (tI τ 2 0 i (-2)) 6 (i % 4) (cRt τ p i) (tI τ 2 0 i (-2) 6 (i % 4) (cRt τ p i) + 1)) 4 p 3 (nI (cRt τ p i))) 4 p 4 (nI (i % 4)) = fTest1 τ p i := by
    rw [tI_t (τ := τ) (t' := 6) (by decide)]
    rfl
  rw [e4] at R4
  simp (disch := omega) only [upd_o] at R4
  have re := (hR.2.2.2.2 (i % 4) hiE).2.1
  refine sgX5_tests (mo_slotBy hR hI hp ⟨rfl, rfl, ?_⟩)
  dsimp only [cI]
  rw [ei]
  simp only [oI]
  simp (disch := omega) only [ixn, nI_1, nI_add, pk_mul, nI_p0, of0, of1, of2, of3, of4, of5, of6, of7, of8, dv16, dv4, rm4, at_n, pl_n, ce_n, oe_n, oe0, oe1, oe2, ix_0, ix_1, ix_2, ix_3, ix_4, ix_5, ix_6, ix_7, ix_8]
  refine mo_routeFor hR hI hp hiE ⟨rfl, rfl, ?_⟩
  dsimp only [cI]
  rw [show cRoute (τ 6 (i % 4)) (τ 4 p 3) = cRt τ p i from rfl]
  generalize cRt τ p i = b at *
  simp (disch := omega) only [ixn, nI_1, nI_add, pk_mul, nI_p0, of0, of1, of2, of3, of4, of5, of6, of7, of8, dv16, dv4, rm4, at_n, pl_n, ce_n, oe_n, oe0, oe1, oe2, ix_0, ix_1, ix_2, ix_3, ix_4, ix_5, ix_6, ix_7, ix_8, setI_eq, rset_rset, rset_s, rset_2, tI_s, tI_t, tI_j, tI_k]
  refine ⟨vp_in_nI (by omega) (by decide), vp_in_nI (by omega) (by decide), vp_in_nI (by omega) (by decide), vp_in_nI (by omega) (by decide), vp_in_nI (by omega) (by decide), vp_in_nI (by omega) (by decide), vp_in_nI (by omega) (by decide), fun q => ⟨vp_in_nI (by omega) (by decide), vp_in_nI (by omega) (by decide), vp_in_nI (by omega) (by decide), vp_in_nI (by omega) (by decide), ?_⟩, fun q => ?_⟩
  · rw [r0, r5, r1]
    have RF := fun x => Rel_pu (Rel_pu (Rel_pu R4 hE (q := p) (k := 1) (by decide) (τ 4 p 1 + 1)) hE (q := p) (k := 0) (by decide) 0) hE (q := p) (k := 2) (by decide) x
    refine ⟨fun q2 => ⟨vp_in_nI (by omega) (by decide), ?_⟩, fun q2 => ⟨vp_in_nI (by omega) (by decide), ?_⟩⟩
    · refine h0 q _ (Fr_trans Fr_21 (Fr_trans Fr_21 (Fr_trans Fr_21 (Fr_trans Fr_21 (Fr_trans Fr_21 (Fr_trans Fr_21 (Fr_trans Fr_21 Fr_21))))))) ?_
      rw [tI_r, tI_r, tI_r, tI_r, tI_r, tI_r, tI_r, tI_r]
      unfold fTestF
      rw [if_neg (by rw [Int32.not_lt]; exact q2)]
      exact RF _
    · refine h0 q _ (Fr_trans Fr_21 (Fr_trans Fr_21 (Fr_trans Fr_21 (Fr_trans Fr_21 (Fr_trans Fr_21 (Fr_trans Fr_21 (Fr_trans Fr_21 Fr_21))))))) ?_
      rw [tI_r, tI_r, tI_r, tI_r, tI_r, tI_r, tI_r, tI_r]
      unfold fTestF
      rw [if_pos (by rw [Int32.not_le] at q2; exact q2)]
      exact RF _
  · refine ⟨vp_in_nI (by omega) (by decide), vp_in_nI (by omega) (by decide), vp_in_nI (by omega) (by decide), ?_⟩
    refine h1 q _ (Fr_trans Fr_21 (Fr_trans Fr_21 (Fr_trans Fr_21 (Fr_trans Fr_21 (Fr_trans Fr_21 (Fr_trans Fr_21 Fr_21)))))) ?_
    rw [tI_r, tI_r, tI_r, tI_r, tI_r, tI_r, tI_r, re]
    exact Rel_pu (Rel_ex R4 hE hiE (Or.inl rfl) _) hE (by decide) _
theorem mo_goesOn (hR : Rel E P τ (m.1 9 21 0)) (hI : Iv K E P τ) (hK : K < 2 ^ 31) (hd : ∃ D, τ 0 0 0 = nI D ∧ D < 9999) (h : ∀ μ, Fr μ (m.1 9) → Rel E P (give P (fGo0 E P τ)) (μ 21 0) → Q (.inl (some (pI (nI (cAway P τ))))) (rset m 9 μ) c n) : Wq g (d + 5) MX5_goesOn c n 0 [some (pO 20 9 0)] [] m Q := by
  have hP := hI.P12
  have hE := hI.E4
  have hI' := fGo0_Iv hI hd
  have rE := hR.h (k := 1) (by decide)
  rw [hI.hE] at rE
  have cnt : cN (fun j => isPu P (τ 2 0 (4 * (j % 4) + j / 4))) (4 * E) = cAway P τ := by
    rw [← cN_cut (k := 16) (by omega) fun j h1 h2 => ?_]
    · exact cN_perm (f := fun i => isPu P (τ 2 0 i))
    · rw [hI.2.2.2.2.2.2.2.2.1 _ (by omega) (by rw [Nat.mul_add_mod]; omega)]
      simp [isPu]
  have s0c : ∀ e k, e < E → k < 40 → m.1 9 21 0 (9 + 40 * e + k) = τ 2 0 (4 * k + e) := fun e k he hk => by
    have := hR.ce' (i := 4 * k + e) (by omega) (by omega)
    rwa [show 9 + 40 * ((4 * k + e) % 4) + (4 * k + e) / 4 = 9 + 40 * e + k by omega] at this
  have key := Wq.up (g := g) (d := d + 5) (M := MX5_goesOn) (c := c) (n := n) (pc := 4) (Q := Q) (S := Nat → Nat → Nat → Int32) E (fun e _ => [some (pO 20 9 0), some (pI (nI (cN (fun j => isPu P (τ 2 0 (4 * (j % 4) + j / 4))) (4 * e)))), some (pI (nI e)), none, none]) (fun _ μ => rset m 9 μ) (fun e μ => Fr μ (m.1 9) ∧ GoI E P τ (m.1 9 21 0) (μ 21 0) e 0 0) (fun μ hL => ?_) (fun e μ he hL ih => ?_) 0 (m.1 9) (by omega) ⟨Fr_rfl, fun _ _ => rfl, fun _ _ _ => rfl, fun j hj => by rw [if_neg (by omega)], fun p hp k hk => ⟨fun z => by obtain ⟨_, i, _, z, _⟩ := z; omega, fun _ => rfl⟩⟩
  · rw [rset_id] at key
    exact sgX5_goesOn key
  · obtain ⟨fr, g1, g2, g3, g4⟩ := hL
    refine sgX5_goesOn_4 ⟨fun _ => ?_, fun q => absurd ?_ q⟩
    · simp (disch := omega) only [ixn, nI_1, nI_add, pk_mul, nI_p0, of0, of1, of2, of3, of4, of5, of6, of7, of8, dv16, dv4, rm4, at_n, pl_n, ce_n, oe_n, oe0, oe1, oe2, ix_0, ix_1, ix_2, ix_3, ix_4, ix_5, ix_6, ix_7, ix_8, setI_eq, rset_rset, rset_s, rset_2, tI_s, tI_t, tI_j, tI_k]
      rw [cnt, g1 4 (by decide), g1 0 (by decide), hR.h (k := 4) (by decide), hR.h (k := 0) (by decide)]
      refine mo_giveOut (τ := fGo0 E P τ) ?_ hI' hK (fun μ3 f3 r3 => ⟨rfl, rfl, ?_⟩)
      · rw [rset_s, tI_r, tI_r]
        refine ⟨fun k hk => ?_, fun k hk => ?_, fun i hi hiE => ?_, fun p hp k hk => ?_, fun e he => ?_⟩
        · by_cases k0 : k = 0
          · subst k0
            rw [upd_e]
            simp [fGo0]
          · rw [upd_o k0]
            by_cases k4 : k = 4
            · subst k4
              rw [upd_e]
              simp [fGo0]
            · rw [upd_o k4, g1 k (by omega), hR.h hk]
              simp [fGo0, k0, k4]
        · rw [upd_o (by omega), upd_o (by omega), g1 _ (by omega), hR.s hk]
          simp [fGo0]
        · rw [upd_o (by omega), upd_o (by omega), show 9 + 40 * (i % 4) + i / 4 = 9 + (40 * (i % 4) + i / 4) by omega, g3 _ (by omega), if_pos (show 40 * (i % 4) + i / 4 < 40 * E + 0 by omega)]
          rw [fGo0_2 hi hiE]
          by_cases q : i < 144
          · rw [if_pos (show (40 * (i % 4) + i / 4) % 40 < 36 by rw [Nat.mul_add_mod]; omega), if_pos q]
            have := hR.ce' (i := i + 16) (by omega) (by omega)
            rw [← this]
            refine congrArg (m.1 9 21 0) ?_
            omega
          · rw [if_neg (show ¬ (40 * (i % 4) + i / 4) % 40 < 36 by rw [Nat.mul_add_mod]; omega), if_neg q]
        · rw [upd_o (by omega), upd_o (by omega)]
          rw [fGo0_4]
          by_cases z : k = 0 ∧ inC τ 16 p = true
          · rw [if_pos ⟨z.1, hp, z.2⟩]
            obtain ⟨i, hi, e⟩ := inC_iff.mp z.2
            refine (g4 p hp k hk).1 ⟨z.1, i, hi, Or.inl ?_, e⟩
            exact hI.ceE' hp (by omega) e
          · rw [if_neg (fun w => z ⟨w.1, w.2.2⟩), (g4 p hp k hk).2 (fun w => ?_), hR.p hp hk]
            obtain ⟨w1, i, hi, _, e⟩ := w
            exact z ⟨w1, inC_iff.mpr ⟨i, hi, e⟩⟩
        · obtain ⟨a0, a1, a2, a3⟩ := hR.2.2.2.2 e he
          have t6 : fGo0 E P τ 6 = τ 6 := by funext j k; simp [fGo0]
          have t5 : fGo0 E P τ 5 = τ 5 := by funext j k; simp [fGo0]
          rw [t6, t5]
          refine ⟨?_, ?_, ?_, fun k hk => ?_⟩
          · rw [upd_o (by omega), upd_o (by omega), g2 _ (by omega) (by omega), a0]
          · rw [upd_o (by omega), upd_o (by omega), g2 _ (by omega) (by omega), a1]
          · rw [upd_o (by omega), upd_o (by omega), g2 _ (by omega) (by omega), a2]
          · rw [upd_o (by omega), upd_o (by omega), g2 _ (by omega) (by omega), a3 k hk]
      · rw [rset_rset]
        rw [rset_s] at f3
        exact h μ3 (Fr_trans f3 (Fr_trans Fr_21 (Fr_trans Fr_21 fr))) r3
    · rw [rset_s, ix_1, g1 1 (by decide), rE]
      exact geL (Nat.le_refl E) (by omega)
  · obtain ⟨fr0, G0⟩ := hL
    have hE' : (rset m 9 μ).1 9 21 0 (ix 1) = nI E := by rw [rset_s, ix_1, G0.1 1 (by decide), rE]
    refine sgX5_goesOn_4 ⟨fun q => absurd ?_ (ngeL he (show E < 2 ^ 31 by omega)), fun _ => ?_⟩
    · rw [hE'] at q
      exact q
    · refine Wq.up (S := Nat → Nat → Nat → Int32) 4 (fun k _ => [some (pO 20 9 0), some (pI (nI (cN (fun j => isPu P (τ 2 0 (4 * (j % 4) + j / 4))) (4 * e + k)))), some (pI (nI e)), some (pI (nI k)), none]) (fun _ μ => rset m 9 μ) (fun k μ => Fr μ (m.1 9) ∧ GoI E P τ (m.1 9 21 0) (μ 21 0) e k 0) (fun μ hL => ?_) (fun k μ hk hL ih => ?_) 0 μ (by omega) ⟨fr0, G0⟩
      · refine sgX5_goesOn_16 ⟨fun _ => ?_, fun q => absurd (geL (Nat.le_refl 4) (by decide)) q⟩
        refine Wq.up (S := Nat → Nat → Nat → Int32) 40 (fun k _ => [some (pO 20 9 0), some (pI (nI (cN (fun j => isPu P (τ 2 0 (4 * (j % 4) + j / 4))) (4 * e + 4)))), some (pI (nI e)), some (pI (nI k)), none]) (fun _ μ => rset m 9 μ) (fun k μ => Fr μ (m.1 9) ∧ GoI E P τ (m.1 9 21 0) (μ 21 0) e 4 k) (fun μ hL => ?_) (fun k μ hk hL ih2 => ?_) 0 μ (by omega) hL
        · obtain ⟨fr, g1, g2, g3, g4⟩ := hL
          refine sgX5_goesOn_62 ⟨fun _ => ?_, fun q => absurd (geL (Nat.le_refl 40) (by decide)) q⟩
          rw [nI_1]
          refine ih μ ⟨fr, g1, g2, fun j hj => ?_, fun p hp k hk => ?_⟩
          · rw [g3 j hj]
            by_cases z : j < 40 * e + 40
            · rw [if_pos z, if_pos (show j < 40 * (e + 1) + 0 by omega)]
            · rw [if_neg z, if_neg (show ¬ j < 40 * (e + 1) + 0 by omega)]
          · refine ⟨fun z => (g4 p hp k hk).1 ?_, fun z => (g4 p hp k hk).2 fun w => z ?_⟩
            · obtain ⟨z1, i, z2, z3, z4⟩ := z
              exact ⟨z1, i, z2, by omega, z4⟩
            · obtain ⟨z1, i, z2, z3, z4⟩ := w
              exact ⟨z1, i, z2, by omega, z4⟩
        · obtain ⟨fr, g1, g2, g3, g4⟩ := hL
          refine sgX5_goesOn_62 ⟨fun q => absurd q (ngeL hk (by decide)), fun _ => ?_⟩
          have st : ∀ x, x = (if k < 36 then m.1 9 21 0 (9 + 40 * e + k + 4) else -1) → Wq g (d + 5) MX5_goesOn c n 62 [some (pO 20 9 0), some (pI (nI (cN (fun j => isPu P (τ 2 0 (4 * (j % 4) + j / 4))) (4 * e + 4)))), some (pI (nI e)), some (pI (nI (k + 1))), none] [] (rset m 9 (tI μ 21 0 (9 + 40 * e + k) x)) Q := fun x hx => by
            refine ih2 _ ⟨Fr_trans Fr_21 fr, ?_⟩
            rw [tI_r]
            refine ⟨fun j hj => ?_, fun j h1 h2 => ?_, fun j hj => ?_, fun p hp j hj => ?_⟩
            · rw [upd_o (by omega), g1 j hj]
            · rw [upd_o (by omega), g2 j h1 h2]
            · by_cases z : j = 40 * e + k
              · subst z
                rw [show 9 + (40 * e + k) = 9 + 40 * e + k by omega, upd_e, if_pos (show 40 * e + k < 40 * e + (k + 1) by omega), hx]
                by_cases w : k < 36
                · rw [if_pos w, if_pos (show (40 * e + k) % 40 < 36 by rw [Nat.mul_add_mod]; omega)]
                · rw [if_neg w, if_neg (show ¬ (40 * e + k) % 40 < 36 by rw [Nat.mul_add_mod]; omega)]
              · rw [upd_o (by omega), g3 j hj]
                by_cases w : j < 40 * e + k
                · rw [if_pos w, if_pos (show j < 40 * e + (k + 1) by omega)]
                · rw [if_neg w, if_neg (show ¬ j < 40 * e + (k + 1) by omega)]
            · rw [upd_o (by omega)]
              exact g4 p hp j hj
          simp (disch := omega) only [at_j, nI_1, ixn, setI_eq, rset_rset, rset_s]
          have c36 : (36 : Int32) ≤ nI k ↔ 36 ≤ k := by
            rw [show (36 : Int32) = nI 36 from rfl, nI_leI (by decide) (by omega)]
          refine ⟨fun q => ⟨vp_in_nI (by omega) (by decide), ?_⟩, fun q => ?_⟩
          · rw [c36] at q
            refine st _ ?_
            rw [if_neg (by omega)]
          · rw [c36] at q
            rw [show nI (9 + 40 * e + k) + 4 = nI (9 + 40 * e + k + 4) from nI_add _ 4, ixn (by omega)]
            refine ⟨vp_in_nI (by omega) (by decide), vp_in_nI (by omega) (by decide), ?_⟩
            refine st _ ?_
            rw [if_pos (by omega), show 9 + 40 * e + k + 4 = 9 + (40 * e + k + 4) by omega, g3 _ (by omega), if_neg (show ¬ 40 * e + k + 4 < 40 * e + k by omega)]
      · obtain ⟨fr, g1, g2, g3, g4⟩ := hL
        have ec : μ 21 0 (9 + 40 * e + k) = τ 2 0 (4 * k + e) := by
          rw [show 9 + 40 * e + k = 9 + (40 * e + k) by omega, g3 _ (by omega), if_neg (by omega), ← s0c e k he (by omega)]
          refine congrArg (m.1 9 21 0) ?_
          omega
        have hce := Ce_neg hP (hI.ce (i := 4 * k + e) (by omega))
        have hpu := isPu_iff hI (i := 4 * k + e) (by omega)
        have cs : cN (fun j => isPu P (τ 2 0 (4 * (j % 4) + j / 4))) (4 * e + k + 1) = cN (fun j => isPu P (τ 2 0 (4 * (j % 4) + j / 4))) (4 * e + k) + if isPu P (τ 2 0 (4 * k + e)) then 1 else 0 := by
          rw [cN_s]
          rw [show 4 * ((4 * e + k) % 4) + (4 * e + k) / 4 = 4 * k + e by omega]
        refine sgX5_goesOn_16 ⟨fun q => absurd q (ngeL hk (by decide)), fun _ => ?_⟩
        simp (disch := omega) only [at_0, nI_1, ixn, rset_s]
        refine ⟨vp_in_nI (by omega) (by decide), ?_⟩
        rw [ec]
        refine ⟨fun q => ?_, fun q => ?_⟩
        · have hn : ¬ isPu P (τ 2 0 (4 * k + e)) = true := fun z => (hce.mpr (hpu.mp z)) q
          have := ih μ ⟨fr, g1, g2, g3, fun p hp j hj => ?_⟩
          · rw [show 4 * e + (k + 1) = 4 * e + k + 1 by omega, cs, if_neg hn] at this
            exact this
          · refine ⟨fun z => (g4 p hp j hj).1 ?_, fun z => (g4 p hp j hj).2 fun w => z ?_⟩
            · obtain ⟨z1, i, z2, z3, z4⟩ := z
              refine ⟨z1, i, z2, ?_, z4⟩
              by_cases w : i = 4 * k + e
              · subst w
                exact absurd (hpu.mpr ⟨p, hp, z4⟩) hn
              · omega
            · obtain ⟨z1, i, z2, z3, z4⟩ := w
              exact ⟨z1, i, z2, by omega, z4⟩
        · obtain ⟨p, hp, ep⟩ := hce.mp q
          have hn := hpu.mpr ⟨p, hp, ep⟩
          rw [ep]
          simp (disch := omega) only [ixn, nI_1, nI_add, pk_mul, nI_p0, of0, of1, of2, of3, of4, of5, of6, of7, of8, dv16, dv4, rm4, at_n, pl_n, ce_n, oe_n, oe0, oe1, oe2, ix_0, ix_1, ix_2, ix_3, ix_4, ix_5, ix_6, ix_7, ix_8, setI_eq, rset_rset, rset_s, rset_2, tI_s, tI_t, tI_j, tI_k]
          refine ⟨vp_in_nI (by omega) (by decide), ?_⟩
          have := ih (tI μ 21 0 (197 + 12 * p + 0) 0) ⟨Fr_trans Fr_21 fr, ?_⟩
          · rw [show 4 * e + (k + 1) = 4 * e + k + 1 by omega, cs, if_pos hn] at this
            exact this
          · rw [tI_r]
            refine ⟨fun j hj => ?_, fun j h1 h2 => ?_, fun j hj => ?_, fun p2 hp2 j hj => ?_⟩
            · rw [upd_o (by omega), g1 j hj]
            · rw [upd_o (by omega), g2 j h1 h2]
            · rw [upd_o (by omega), g3 j hj]
            · by_cases z : p2 = p ∧ j = 0
              · obtain ⟨z1, z2⟩ := z
                subst z1 z2
                refine ⟨fun _ => upd_e, fun w => absurd ⟨rfl, 4 * k + e, by omega, by omega, ep⟩ w⟩
              · rw [upd_o (by omega)]
                refine ⟨fun w => (g4 p2 hp2 j hj).1 ?_, fun w => (g4 p2 hp2 j hj).2 fun w2 => w ?_⟩
                · obtain ⟨z1, i, z2, z3, z4⟩ := w
                  refine ⟨z1, i, z2, ?_, z4⟩
                  by_cases w : i = 4 * k + e
                  · subst w
                    rw [ep] at z4
                    exact absurd ⟨(nI_i (by omega) (by omega) z4).symm, z1⟩ z
                  · omega
                · obtain ⟨z1, i, z2, z3, z4⟩ := w2
                  exact ⟨z1, i, z2, by omega, z4⟩
end M3
