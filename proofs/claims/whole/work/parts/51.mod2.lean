/-! THE MODEL: what an order does -/
theorem tI_comm {τ : Nat → Nat → Nat → Int32} {t j k t' j' k' : Nat} {x y : Int32} (h : t ≠ t' ∨ j ≠ j' ∨ k ≠ k') : tI (tI τ t j k x) t' j' k' y = tI (tI τ t' j' k' y) t j k x := by
  funext a b e
  simp only [tI_g]
  by_cases h1 : a = t ∧ b = j ∧ e = k
  · by_cases h2 : a = t' ∧ b = j' ∧ e = k'
    · omega
    · simp [h1, h2]
      intro q1 q2 q3
      omega
  · by_cases h2 : a = t' ∧ b = j' ∧ e = k'
    · simp [h1, h2]
      intro q1 q2 q3
      omega
    · simp [h1, h2]
theorem upd_o {f : Nat → Int32} {k k' : Nat} {x : Int32} (h : k' ≠ k) : upd f k x k' = f k' := by simp [upd, h]
theorem upd_e {f : Nat → Int32} {k : Nat} {x : Int32} : upd f k x k = x := by simp [upd]
theorem cCell_day {τ : Nat → Nat → Nat → Int32} {x : Int32} : ((if ¬ oI (cCell τ x) = (-1) then (oI (cCell τ x) / 16) else (-1)) : Int32) = cDay (cCell τ x) := by
  have e := tell_eq (o := cCell τ x) (fun i hi => cCell_lt hi) (x := 0) (w := 0) rfl (by decide)
  have e2 : cTell (cCell τ x) 0 = cDay (cCell τ x) := by cases cCell τ x <;> rfl
  rw [e2] at e
  exact e
/-- the best route so far, as the model has it -/
def rB (t : Nat → Int32) (av : Int32) : Nat → Option Nat
  | 0 => none
  | k + 1 => match rB t av k with
    | none => if nI k = av then none else some k
    | some b => if t b ≤ t k then some b else if nI k = av then some b else some k
theorem rB_lt {t : Nat → Int32} {av : Int32} : ∀ {k b : Nat}, rB t av k = some b → b < k
  | k + 1, b, h => by
    rw [rB] at h
    cases e : rB t av k with
    | none =>
      rw [e] at h
      dsimp only at h
      split at h
      · cases h
      · injection h with h; omega
    | some b' =>
      have := rB_lt e
      rw [e] at h
      dsimp only at h
      split at h
      · injection h with h; omega
      · split at h
        · injection h with h; omega
        · injection h with h; omega
theorem rB_route {t : Nat → Int32} {av : Int32} : rB t av 4 = some (cRoute t av) := by
  have h0 : nI 0 = 0 := rfl
  have h1 : nI 1 = 1 := rfl
  have h2 : nI 2 = 2 := rfl
  have h3 : nI 3 = 3 := rfl
  unfold cRoute
  by_cases a0 : av = 0
  · subst a0
    simp only [rB, cLeast, h0, h1, h2, h3, if_true, if_pos, show ¬ (1 : Int32) = 0 by decide, show ¬ (2 : Int32) = 0 by decide, show ¬ (3 : Int32) = 0 by decide, if_false]
    by_cases q1 : t 1 ≤ t 2
    · simp only [if_pos q1]
      by_cases q2 : t 1 ≤ t 3
      · simp only [if_pos q2]
      · simp only [if_neg q2]
    · simp only [if_neg q1]
      by_cases q2 : t 2 ≤ t 3
      · simp only [if_pos q2]
      · simp only [if_neg q2]
  · have a0' : ¬ (0 : Int32) = av := fun z => a0 z.symm
    simp only [rB, cLeast, h0, h1, h2, h3, if_neg a0, if_neg a0']
    by_cases c1 : (1 : Int32) = av <;> by_cases c2 : (2 : Int32) = av <;> by_cases c3 : (3 : Int32) = av <;> by_cases q1 : t 0 ≤ t 1 <;> by_cases q2 : t 0 ≤ t 2 <;> by_cases q3 : t 0 ≤ t 3 <;> by_cases q4 : t 1 ≤ t 2 <;> by_cases q5 : t 1 ≤ t 3 <;> by_cases q6 : t 2 ≤ t 3 <;> simp only [c1, c2, c3, q1, q2, q3, q4, q5, q6, if_true, if_false]
section M2
variable {g : GG} {d : Nat} {c n : Nat} {m : PM} {Q : Ou → PM → Nat → Nat → Prop} {K E P : Nat} {τ : Nat → Nat → Nat → Int32}
theorem mo_asks {p : Nat} (hR : Rel E P τ (m.1 9 21 0)) (hI : Iv K E P τ) (hK : K + 1 < 2 ^ 31) (hp : p < P) (hs : τ 4 p 0 = 0) (h : ∀ μ, Fr μ (m.1 9) → Rel E P (give P (fAsk0 τ p)) (μ 21 0) → Q (.inl (some (pI (cDay (cCell (give P (fAsk0 τ p)) (nI p)))))) (rset m 9 μ) c n) : Wq g (d + 5) MX5_asks c n 0 [some (pO 20 9 0), some (pI (nI p))] [] m Q := by
  have hP := hI.P12
  have hE := hI.E4
  have hI' := fAsk0_Iv hI hp (by omega) hs
  have e : fAsk0 τ p = tI (tI (tI (tI (tI τ 4 p 7 (τ 4 p 7 + τ 1 0 3)) 4 p 8 (τ 1 0 3)) 4 p 0 1) 4 p 6 (τ 0 0 3)) 0 0 3 (τ 0 0 3 + 1) := by
    unfold fAsk0 fWait
    simp (disch := omega) only [setI_eq, rset_rset, rset_s, rset_2, tI_s, tI_t, tI_j, tI_k]
    rw [tI_comm (t := 4) (k := 8) (by omega)]
  have r7 := hR.p hp (k := 7) (by decide)
  have r8 : m.1 9 21 0 8 = τ 1 0 3 := hR.s (k := 3) (by decide)
  have r3 := hR.h (k := 3) (by decide)
  refine sgX5_asks ?_
  simp (disch := omega) only [ixn, nI_1, nI_add, pk_mul, nI_p0, of0, of1, of2, of3, of4, of5, of6, of7, of8, dv16, dv4, rm4, at_n, pl_n, ce_n, oe_n, oe0, oe1, oe2, ix_0, ix_1, ix_2, ix_3, ix_4, ix_5, ix_6, ix_7, ix_8, setI_eq, rset_rset, rset_s, rset_2, tI_s, tI_t, tI_j, tI_k]
  refine ⟨vp_in_nI (by omega) (by decide), vp_in_nI (by omega) (by decide), vp_in_nI (by omega) (by decide), vp_in_nI (by omega) (by decide), vp_in_nI (by omega) (by decide), ?_⟩
  rw [r7, r8, r3]
  refine mo_giveOut (τ := fAsk0 τ p) ?_ hI' (by omega) (fun μ f r => ⟨rfl, rfl, ?_⟩)
  · rw [e, rset_s, tI_r, tI_r, tI_r, tI_r, tI_r]
    exact Rel_hd (Rel_pu (Rel_pu (Rel_pu (Rel_pu hR hE (by decide) _) hE (by decide) _) hE (by decide) _) hE (by decide) _) hE (by decide) _
  · rw [rset_rset]
    rw [rset_s] at f
    have h' := h μ (Fr_trans f (Fr_trans Fr_21 (Fr_trans Fr_21 (Fr_trans Fr_21 (Fr_trans Fr_21 Fr_21))))) r
    refine mo_slotBy (τ := give P (fAsk0 τ p)) (by rw [rset_s]; exact r) (give_Iv hI') hp ⟨rfl, rfl, ?_⟩
    dsimp only [cI]
    rw [← cCell_day] at h'
    refine ⟨fun q => ?_, fun q => ?_⟩
    · rw [if_pos q] at h'
      exact h'
    · rw [if_neg (fun z => z q)] at h'
      exact h'
theorem mo_quits {p : Nat} (hR : Rel E P τ (m.1 9 21 0)) (hI : Iv K E P τ) (hK : K < 2 ^ 31) (hp : p < P) (h : ∀ μ, Fr μ (m.1 9) → Rel E P (give P (fQuit0 τ p)) (μ 21 0) → Q (.inl (some (pI (cBack τ p)))) (rset m 9 μ) c n) : Wq g (d + 5) MX5_quits c n 0 [some (pO 20 9 0), some (pI (nI p))] [] m Q := by
  have hP := hI.P12
  have hE := hI.E4
  have hI' := fQuit0_Iv hI hp
  have r0 := hR.p hp (k := 0) (by decide)
  have r7 := hR.p hp (k := 7) (by decide)
  have r8 := hR.p hp (k := 8) (by decide)
  have r27 : m.1 9 21 0 7 = τ 1 0 2 := hR.s (k := 2) (by decide)
  have key : ∀ x ν, Fr ν (m.1 9) → Rel E P (fQuit0 τ p) (ν 21 0) → cBack τ p = x → Wp g (d + 4) MX5_giveOut 0 [some (pO 20 9 0)] [] (rset m 9 ν) (cV fun m6 => Q (.inl (some (pI x))) m6 c n) := fun x ν f r e => by
    subst e
    refine mo_giveOut (τ := fQuit0 τ p) (by rw [rset_s]; exact r) hI' hK (fun μ f2 r2 => ⟨rfl, rfl, ?_⟩)
    rw [rset_rset]
    rw [rset_s] at f2
    exact h μ (Fr_trans f2 f) r2
  clear h
  refine sgX5_quits (mo_slotBy hR hI hp ⟨rfl, rfl, ?_⟩)
  dsimp only [cI]
  unfold fQuit0 cBack at key
  cases e : cCell τ (nI p) with
  | none =>
    rw [e] at key
    refine ⟨fun _ => ?_, fun q => absurd rfl q⟩
    simp (disch := omega) only [ixn, nI_1, nI_add, pk_mul, nI_p0, of0, of1, of2, of3, of4, of5, of6, of7, of8, dv16, dv4, rm4, at_n, pl_n, ce_n, oe_n, oe0, oe1, oe2, ix_0, ix_1, ix_2, ix_3, ix_4, ix_5, ix_6, ix_7, ix_8, setI_eq, rset_rset, rset_s, rset_2, tI_s, tI_t, tI_j, tI_k]
    refine ⟨vp_in_nI (by omega) (by decide), fun _ => ⟨vp_in_nI (by omega) (by decide), vp_in_nI (by omega) (by decide), vp_in_nI (by omega) (by decide), ?_⟩, fun q => absurd rfl q⟩
    rw [r7, r8]
    refine key _ _ (Fr_trans Fr_21 Fr_21) ?_ rfl
    rw [tI_r, tI_r]
    exact Rel_pu (Rel_pu hR hE (by decide) _) hE (by decide) _
  | some i =>
    rw [e] at key
    dsimp only at key
    have hi : i < 160 := cCell_lt e
    have hiE : i % 4 < E := hI.ceE' hp hi (cCell_some e).2
    simp only [oI]
    refine ⟨fun q => absurd q (nI_m1 (by omega)), fun _ => ?_⟩
    simp (disch := omega) only [ixn, nI_1, nI_add, pk_mul, nI_p0, of0, of1, of2, of3, of4, of5, of6, of7, of8, dv16, dv4, rm4, at_n, pl_n, ce_n, oe_n, oe0, oe1, oe2, ix_0, ix_1, ix_2, ix_3, ix_4, ix_5, ix_6, ix_7, ix_8, setI_eq, rset_rset, rset_s, rset_2, tI_s, tI_t, tI_j, tI_k]
    refine ⟨fun q => ⟨vp_in_nI (by omega) (by decide), fun z => absurd z (nI_m1 (by omega)), fun _ => ⟨vp_in_nI (by omega) (by decide), vp_in_nI (by omega) (by decide), vp_in_nI (by omega) (by decide), vp_in_nI (by omega) (by decide), ?_⟩⟩, fun q => ⟨fun z => absurd z (nI_m1 (by omega)), fun _ => ⟨vp_in_nI (by omega) (by decide), vp_in_nI (by omega) (by decide), vp_in_nI (by omega) (by decide), vp_in_nI (by omega) (by decide), ?_⟩⟩⟩
    · rw [r27] at q
      rw [r7, r8]
      refine key _ _ (Fr_trans Fr_21 (Fr_trans Fr_21 Fr_21)) ?_ (if_pos q)
      rw [tI_r, tI_r, tI_r, if_pos q]
      exact Rel_pu (Rel_pu (Rel_ce hR hE hi _) hE (by decide) _) hE (by decide) _
    · rw [r27] at q
      rw [r7]
      refine key _ _ (Fr_trans Fr_21 (Fr_trans Fr_21 Fr_21)) ?_ (if_neg q)
      rw [tI_r, tI_r, tI_r, if_neg q]
      exact Rel_pu (Rel_pu (Rel_ce hR hE hi _) hE (by decide) _) hE (by decide) _
theorem mo_mor {e D k a : Nat} (hR : Rel E P τ (m.1 9 21 0)) (hI : Iv K E P τ) (he : e < E) (hD : D < 10) (hk : k < 2) (ha : a ≤ 2) (h : ∀ μ, Fr μ (m.1 9) → Rel E P (fMor P τ (16 * D + 4 * k + e)) (μ 21 0) → Wq g (d + 5) MX5_cancels c n 5 [some (pO 20 9 0), some (pI (nI e)), some (pI (nI D)), some (pI (nI (a + if isPu P (τ 2 0 (16 * D + 4 * k + e)) then 1 else 0))), some (pI (nI (k + 1))), none] [] (rset m 9 μ) Q) : Wq g (d + 5) MX5_cancels c n 5 [some (pO 20 9 0), some (pI (nI e)), some (pI (nI D)), some (pI (nI a)), some (pI (nI k)), none] [] m Q := by
  have hP := hI.P12
  have hE := hI.E4
  have hi : 16 * D + 4 * k + e < 160 := by omega
  have hiE : (16 * D + 4 * k + e) % 4 < E := by omega
  have ix1 : 9 + 40 * ((16 * D + 4 * k + e) % 4) + (16 * D + 4 * k + e) / 4 = 9 + 40 * e + 4 * D + k := by omega
  have ei : m.1 9 21 0 (9 + 40 * e + 4 * D + k) = τ 2 0 (16 * D + 4 * k + e) := by
    have := hR.ce' hi hiE
    rwa [ix1] at this
  have RC := fun x => Rel_ce hR hE hi x
  rw [ix1] at RC
  have hce := Ce_neg hP (hI.ce hi)
  have hpu := isPu_iff hI hi
  refine sgX5_cancels_5 ⟨fun q => absurd q (ngeL hk (by decide)), fun _ => ?_⟩
  simp (disch := omega) only [at_n, ixn, setI_eq]
  refine ⟨vp_in_nI (by omega) (by decide), vp_in_nI (by omega) (by decide), ?_⟩
  rw [ei]
  refine ⟨fun q => ?_, fun q => ?_⟩
  · have hn : ¬ isPu P (τ 2 0 (16 * D + 4 * k + e)) = true := fun z => (hce.mpr (hpu.mp z)) q
    rw [nI_1]
    have := h (tI (m.1 9) 21 0 (9 + 40 * e + 4 * D + k) (-2)) Fr_21 (by
      rw [tI_r]
      unfold fMor
      rw [if_neg hn]
      exact RC _)
    rw [if_neg hn] at this
    exact this
  · obtain ⟨p, hp, ep⟩ := hce.mp q
    have hn := hpu.mpr ⟨p, hp, ep⟩
    have r5 := hR.p hp (k := 5) (by decide)
    have r3 := hR.h (k := 3) (by decide)
    rw [ep]
    simp (disch := omega) only [ixn, nI_1, nI_add, pk_mul, nI_p0, of0, of1, of2, of3, of4, of5, of6, of7, of8, dv16, dv4, rm4, at_n, pl_n, ce_n, oe_n, oe0, oe1, oe2, ix_0, ix_1, ix_2, ix_3, ix_4, ix_5, ix_6, ix_7, ix_8, setI_eq, rset_rset, rset_s, rset_2, tI_s, tI_t, tI_j, tI_k]
    refine ⟨vp_in_nI (by omega) (by decide), vp_in_nI (by omega) (by decide), vp_in_nI (by omega) (by decide), vp_in_nI (by omega) (by decide), ?_⟩
    rw [r5, r3]
    have := h _ (Fr_trans Fr_21 (Fr_trans Fr_21 (Fr_trans Fr_21 (Fr_trans Fr_21 Fr_21)))) (by
      show Rel E P (fMor P τ (16 * D + 4 * k + e)) (tI (tI (tI (tI (tI (m.1 9) 21 0 (9 + 40 * e + 4 * D + k) (-2)) 21 0 (197 + 12 * p + 5) (τ 4 p 5 + 1)) 21 0 (197 + 12 * p + 0) 1) 21 0 (197 + 12 * p + 6) (τ 0 0 3)) 21 0 3 (τ 0 0 3 + 1) 21 0)
      rw [tI_r, tI_r, tI_r, tI_r, tI_r]
      unfold fMor fWait
      rw [if_pos hn, ep, ixn (by omega)]
      simp (disch := omega) only [setI_eq, rset_rset, rset_s, rset_2, tI_s, tI_t, tI_j, tI_k]
      exact Rel_hd (Rel_pu (Rel_pu (Rel_pu (RC _) hE (by decide) _) hE (by decide) _) hE (by decide) _) hE (by decide) _)
    rw [if_pos hn] at this
    exact this
theorem mo_cancels {e D : Nat} (hR : Rel E P τ (m.1 9 21 0)) (hI : Iv K E P τ) (hK : K + 5 < 2 ^ 31) (he : e < E) (hD : D < 10) (h : ∀ μ, Fr μ (m.1 9) → Rel E P (give P (fCan0 P τ e D)) (μ 21 0) → Q (.inl (some (pI (nI (cMoved P τ e D))))) (rset m 9 μ) c n) : Wq g (d + 5) MX5_cancels c n 0 [some (pO 20 9 0), some (pI (nI e)), some (pI (nI D))] [] m Q := by
  have hP := hI.P12
  have hE := hI.E4
  have i1 := fMor_Iv hI (i := 16 * D + 4 * 0 + e) (by omega) (by omega) (by omega)
  have i3 := fCan0_Iv hI he hD (by omega)
  refine sgX5_cancels ?_
  refine mo_mor (k := 0) (a := 0) hR hI he hD (by decide) (by decide) fun μ f r => ?_
  have n1 : 0 + (if isPu P (τ 2 0 (16 * D + 4 * 0 + e)) = true then 1 else 0) ≤ 2 := by split <;> omega
  refine mo_mor (m := rset m 9 μ) (τ := fMor P τ (16 * D + 4 * 0 + e)) (k := 1) (by rw [rset_s]; exact r) i1 he hD (by decide) n1 fun μ2 f2 r2 => ?_
  rw [rset_s] at f2
  rw [rset_rset]
  have ec : (0 + (if isPu P (τ 2 0 (16 * D + 4 * 0 + e)) = true then 1 else 0)) + (if isPu P (fMor P τ (16 * D + 4 * 0 + e) 2 0 (16 * D + 4 * 1 + e)) = true then 1 else 0) = cMoved P τ e D := by
    have : fMor P τ (16 * D + 4 * 0 + e) 2 0 (16 * D + 4 * 1 + e) = τ 2 0 (16 * D + 4 * 1 + e) := by
      unfold fMor fWait
      split <;> simp (disch := omega) only [setI_eq, rset_rset, rset_s, rset_2, tI_s, tI_t, tI_j, tI_k]
    rw [this, Nat.zero_add]
    rfl
  rw [ec]
  refine sgX5_cancels_5 ⟨fun _ => ?_, fun q => absurd (geL (Nat.le_refl 2) (by decide)) q⟩
  simp (disch := omega) only [ixn, nI_1, nI_add, pk_mul, nI_p0, of0, of1, of2, of3, of4, of5, of6, of7, of8, dv16, dv4, rm4, at_n, pl_n, ce_n, oe_n, oe0, oe1, oe2, ix_0, ix_1, ix_2, ix_3, ix_4, ix_5, ix_6, ix_7, ix_8, setI_eq, rset_rset, rset_s, rset_2, tI_s, tI_t, tI_j, tI_k]
  refine ⟨vp_in_nI (by omega) (by decide), vp_in_nI (by omega) (by decide), ?_⟩
  have re := (r2.2.2.2.2 e he).2.2.1
  have e5 : fMor P (fMor P τ (16 * D + 4 * 0 + e)) (16 * D + 4 * 1 + e) 5 e 2 = τ 5 e 2 := by
    unfold fMor fWait
    split <;> split <;> simp (disch := omega) only [setI_eq, rset_rset, rset_s, rset_2, tI_s, tI_t, tI_j, tI_k]
  rw [re, e5]
  refine mo_giveOut (τ := fCan0 P τ e D) ?_ i3 (by omega) (fun μ3 f3 r3 => ⟨rfl, rfl, ?_⟩)
  · rw [rset_s, tI_r]
    exact Rel_ex r2 hE he (Or.inr rfl) _
  · rw [rset_rset]
    rw [rset_s] at f3
    exact h μ3 (Fr_trans f3 (Fr_trans Fr_21 (Fr_trans f2 f))) r3
theorem mo_routeFor {p e : Nat} (hR : Rel E P τ (m.1 9 21 0)) (hI : Iv K E P τ) (hp : p < P) (he : e < E) (h : Q (.inl (some (pI (nI (cRoute (τ 6 e) (τ 4 p 3)))))) m c n) : Wq g (d + 1) MX5_routeFor c n 0 [some (pO 20 9 0), some (pI (nI p)), some (pI (nI e))] [] m Q := by
  have hP := hI.P12
  have hE := hI.E4
  have r3 := hR.p hp (k := 3) (by decide)
  have rt : ∀ k, k < 4 → m.1 9 21 0 (169 + 7 * e + (3 + k)) = τ 6 e k := (hR.2.2.2.2 e he).2.2.2
  refine sgX5_routeFor ?_
  refine Wq.up (S := Unit) 4 (fun k _ => [some (pO 20 9 0), some (pI (nI p)), some (pI (nI e)), some (pI (oI (rB (τ 6 e) (τ 4 p 3) k))), some (pI (nI k)), none, none]) (fun _ _ => m) (fun _ _ => True) (fun _ _ => ?_) (fun k _ hk _ ih => ?_) 0 () (by omega) trivial
  · rw [rB_route]
    exact sgX5_routeFor_5 ⟨fun _ => h, fun q => absurd (geL (Nat.le_refl 4) (by decide)) q⟩
  · have ih' := ih () trivial
    rw [rB] at ih'
    refine sgX5_routeFor_5 ⟨fun q => absurd q (ngeL hk (by decide)), fun _ => ?_⟩
    cases eb : rB (τ 6 e) (τ 4 p 3) k with
    | none =>
      rw [eb] at ih'
      dsimp only at ih'
      simp only [oI]
      simp (disch := omega) only [ixn, nI_1, nI_add, pk_mul, nI_p0, of0, of1, of2, of3, of4, of5, of6, of7, of8, dv16, dv4, rm4, at_n, pl_n, ce_n, oe_n, oe0, oe1, oe2, ix_0, ix_1, ix_2, ix_3, ix_4, ix_5, ix_6, ix_7, ix_8]
      rw [r3]
      refine ⟨vp_in_nI (by omega) (by decide), fun _ => ⟨vp_in_nI (by omega) (by decide), fun q => ?_, fun q => ?_⟩, fun q => absurd trivial q⟩
      · rw [if_pos q] at ih'
        exact ih'
      · rw [if_neg q] at ih'
        exact ih'
    | some b =>
      have hb := rB_lt eb
      rw [eb] at ih'
      dsimp only at ih'
      simp only [oI]
      simp (disch := omega) only [ixn, nI_1, nI_add, pk_mul, nI_p0, of0, of1, of2, of3, of4, of5, of6, of7, of8, dv16, dv4, rm4, at_n, pl_n, ce_n, oe_n, oe0, oe1, oe2, ix_0, ix_1, ix_2, ix_3, ix_4, ix_5, ix_6, ix_7, ix_8]
      rw [r3, rt k hk, rt b (by omega)]
      refine ⟨vp_in_nI (by omega) (by decide), fun q => absurd q (nI_m1 (by omega)), fun _ => ⟨vp_in_nI (by omega) (by decide), fun q => ⟨vp_in_nI (by omega) (by decide), fun q2 => ?_, fun q2 => ?_⟩, fun q => ⟨vp_in_nI (by omega) (by decide), fun q2 => ?_, fun q2 => ?_⟩⟩⟩
      · rw [if_pos q] at ih'
        exact ih'
      · rw [if_pos q] at ih'
        exact ih'
      · rw [if_neg q, if_pos q2] at ih'
        exact ih'
      · rw [if_neg q, if_neg q2] at ih'
        exact ih'
end M2
