/-! TESTSLOTS: looks, and what would be -/
section CP
variable {σ τ : Nat → Nat → Nat → Int32} {P : Nat}
theorem Cp_rfl : Cp τ τ := ⟨fun _ _ => rfl, fun _ _ => rfl, fun _ _ => rfl, fun _ _ _ _ => rfl, fun _ _ => ⟨rfl, rfl, fun _ _ => rfl⟩⟩
theorem Cp_ap {σ' τ' : Nat → Nat → Nat → Int32} (a : Ap σ' σ) (b : Ap τ' τ) (h : Cp σ τ) : Cp σ' τ' := by
  unfold Cp at *
  rw [a 0 (by decide), a 1 (by decide), a 2 (by decide), a 4 (by decide), a 5 (by decide), a 6 (by decide), b 0 (by decide), b 1 (by decide), b 2 (by decide), b 4 (by decide), b 5 (by decide), b 6 (by decide)]
  exact h
theorem Cp_tI (h : Cp σ τ) (t j k : Nat) (x : Int32) : Cp (tI σ t j k x) (tI τ t j k x) := by
  obtain ⟨h0, h1, h2, h4, h5⟩ := h
  refine ⟨fun a ha => ?_, fun a ha => ?_, fun a ha => ?_, fun p hp a ha => ?_, fun e he => ⟨?_, ?_, fun a ha => ?_⟩⟩
  all_goals rw [tI_g, tI_g]
  all_goals split
  all_goals first | rfl | skip
  · exact h0 a ha
  · exact h1 a ha
  · exact h2 a ha
  · exact h4 p hp a ha
  · exact (h5 e he).1
  · exact (h5 e he).2.1
  · exact (h5 e he).2.2 a ha
theorem Cp_can (h : Cp σ τ) {p i : Nat} (hp : p < 12) (hi : i < 160) : cCan σ p i = cCan τ p i := by
  unfold cCan cCome cMeet
  rw [h.1 0 (by decide), h.2.1 1 (by decide), h.2.2.1 i hi, h.2.2.2.1 p hp 2 (by decide), h.2.2.2.1 p hp 4 (by decide)]
theorem Cp_early (h : Cp σ τ) {p : Nat} (hp : p < 12) : fnd (cCan σ p) 160 0 = fnd (cCan τ p) 160 0 := fnd_congr fun j _ hj => Cp_can h hp (by omega)
theorem Cp_step (h : Cp σ τ) {p : Nat} (hp : p < 12) : Cp (gStep σ p) (gStep τ p) := by
  unfold gStep
  rw [Cp_early h hp]
  cases fnd (cCan τ p) 160 0 with
  | none => exact h
  | some i => exact Cp_tI (Cp_tI h _ _ _ _) _ _ _ _
theorem Cp_run {q : Nat → Nat} (hq : ∀ k, q k < 12) : ∀ {n k : Nat} {σ τ : Nat → Nat → Nat → Int32}, Cp σ τ → Cp (gRun q n k σ) (gRun q n k τ)
  | 0, _, _, _, h => h
  | n + 1, k, _, _, h => Cp_run hq (n := n) (Cp_step h (hq k))
theorem Cp_ahead (h : Cp σ τ) {p q : Nat} (hp : p < 12) (hq : q < 12) : cAhead σ p q = cAhead τ p q := by
  unfold cAhead
  rw [h.2.2.2.1 p hp 5 (by decide), h.2.2.2.1 q hq 5 (by decide), h.2.2.2.1 p hp 6 (by decide), h.2.2.2.1 q hq 6 (by decide)]
theorem Cp_place (h : Cp σ τ) (hP : P ≤ 12) {p : Nat} (hp : p < 12) : cPlace σ P p = cPlace τ P p := cN_congr fun q hq => by
  rw [Cp_ahead h (by omega) hp, h.2.2.2.1 q (by omega) 0 (by decide)]
theorem Cp_wN (h : Cp σ τ) (hP : P ≤ 12) : wN P σ = wN P τ := cN_congr fun q hq => by
  unfold wt
  rw [h.2.2.2.1 q (by omega) 0 (by decide)]
theorem Cp_qAt (h : Cp σ τ) (hP : P ≤ 12) : qAt P σ = qAt P τ := by
  funext k
  unfold qAt
  rw [fnd_congr (q := fun p => wt τ p && decide (cPlace τ P p = k)) (fun p _ hp => ?_)]
  unfold wt
  rw [Cp_place h hP (by omega), h.2.2.2.1 p (by omega) 0 (by decide)]
theorem qAt_lt (hP : P ≤ 12) {k : Nat} : qAt P τ k < 12 := by
  unfold qAt
  cases e : fnd (fun p => wt τ p && decide (cPlace τ P p = k)) P 0 with
  | none => simp
  | some z =>
    obtain ⟨_, h2, _, _⟩ := fnd_some e
    simp
    omega
theorem Cp_give (h : Cp σ τ) (hP : P ≤ 12) : Cp (give P σ) (give P τ) := by
  unfold give
  rw [Cp_wN h hP, Cp_qAt h hP]
  exact Cp_run (fun k => qAt_lt hP) h
theorem Cp_wait (h : Cp σ τ) (p : Nat) : Cp (fWait σ p) (fWait τ p) := by
  unfold fWait
  rw [h.1 3 (by decide)]
  exact Cp_tI (Cp_tI (Cp_tI h _ _ _ _) _ _ _ _) _ _ _ _
theorem Cp_mor (h : Cp σ τ) (hP : P ≤ 12) {i : Nat} (hi : i < 160) : Cp (fMor P σ i) (fMor P τ i) := by
  unfold fMor
  rw [h.2.2.1 i hi]
  by_cases z : isPu P (τ 2 0 i) = true
  · rw [if_pos z, if_pos z]
    have : ix (τ 2 0 i) < 12 := by
      unfold isPu at z
      rw [decide_eq_true_eq] at z
      obtain ⟨p, hp, e⟩ := (hasX hP _).mp z
      rw [e, ixn (by omega)]
      omega
    rw [h.2.2.2.1 _ this 5 (by decide)]
    exact Cp_wait (Cp_tI (Cp_tI h _ _ _ _) _ _ _ _) _
  · rw [if_neg z, if_neg z]
    exact Cp_tI h _ _ _ _
theorem Cp_can0 (h : Cp σ τ) (hP : P ≤ 12) {e D : Nat} (he : e < 4) (hD : D < 10) : Cp (fCan0 P σ e D) (fCan0 P τ e D) := by
  unfold fCan0
  rw [(h.2.2.2.2 e he).2.1]
  exact Cp_tI (Cp_mor (Cp_mor h hP (by omega)) hP (by omega)) _ _ _ _
theorem Cp_cell (h : Cp σ τ) (x : Int32) : cCell σ x = cCell τ x := fnd_congr fun i _ hi => by rw [h.2.2.1 i (by omega)]
end CP
/-- what a cancelled morning would bring: a pupil's new days, by the cell he had -/
def cNew (P : Nat) (τ : Nat → Nat → Nat → Int32) (e D k : Nat) : Int32 := cDay (cCell (give P (fCan0 P τ e D)) (τ 2 0 (16 * D + 4 * k + e)))
def cWai (P : Nat) (τ : Nat → Nat → Nat → Int32) (e D k : Nat) : Int32 := if isPu P (τ 2 0 (16 * D + 4 * k + e)) then (if cNew P τ e D k = -1 then 1 else 0) else 0
def cLat (P : Nat) (τ : Nat → Nat → Nat → Int32) (e D k : Nat) : Int32 := if isPu P (τ 2 0 (16 * D + 4 * k + e)) then (if cNew P τ e D k = -1 then 0 else cNew P τ e D k - nI D) else 0
def cIf (P : Nat) (τ : Nat → Nat → Nat → Int32) (e D w : Nat) : Int32 := if w = 0 then nI (cMoved P τ e D) else if w = 1 then cWai P τ e D 0 + cWai P τ e D 1 else 1000 + cLat P τ e D 0 + cLat P τ e D 1
section O10
variable {g : GG} {d : Nat} {c n : Nat} {m : PM} {Q : Ou → PM → Nat → Nat → Prop} {K E P S L : Nat}
theorem co_pupil {x y : Int32} (hV : Vv K E P (m.1 0)) (h3 : ¬ (∃ p, p < P ∧ x = nI p) → Q (.inr 3) m c n) (h2 : ∀ p, p < P → x = nI p → ¬ (∃ w, w ≤ 10 ∧ y = nI w) → Q (.inr 2) m c n) (h : ∀ p w, p < P → x = nI p → w ≤ 10 → y = nI w → Q (.inl (some (pI (cPup P (m.1 0) p w)))) m c n) : Wq g (d + 6) MX4_pupil c n 0 [some (pO 10 8 0), some (pI x), some (pI y)] [] m Q := by
  have hP := hV.1.P12
  refine sgX4_pupil ?_
  rw [hV.1.hP, hasX hP x, show (10 : Int32) = nI 10 from rfl, inX (by decide) y]
  refine ⟨fun q => ?_, fun q => h3 q⟩
  obtain ⟨p, hp, rfl⟩ := q
  refine ⟨fun q => ?_, fun q => h2 p hp rfl q⟩
  obtain ⟨w, hw, rfl⟩ := q
  exact co_pupilProperty hV.1.hP hP (by omega) (by omega) ⟨rfl, rfl, h p w hp rfl hw rfl⟩
theorem co_examiner {x y : Int32} (hV : Vv K E P (m.1 0)) (h3 : ¬ (∃ p, p < E ∧ x = nI p) → Q (.inr 3) m c n) (h2 : ∀ p, p < E → x = nI p → ¬ (∃ w, w ≤ 8 ∧ y = nI w) → Q (.inr 2) m c n) (h : ∀ p w, p < E → x = nI p → w ≤ 8 → y = nI w → Q (.inl (some (pI (cExa (m.1 0) p w)))) m c n) : Wq g (d + 6) MX4_examiner c n 0 [some (pO 10 8 0), some (pI x), some (pI y)] [] m Q := by
  have hE := hV.1.E4
  refine sgX4_examiner ?_
  rw [hV.1.hE, hasX (by omega) x, show (8 : Int32) = nI 8 from rfl, inX (by decide) y]
  refine ⟨fun q => ?_, fun q => h3 q⟩
  obtain ⟨p, hp, rfl⟩ := q
  refine ⟨fun q => ?_, fun q => h2 p hp rfl q⟩
  obtain ⟨w, hw, rfl⟩ := q
  exact co_examinerProperty (by omega) (by omega) ⟨rfl, rfl, h p w hp rfl hw rfl⟩
theorem co_slot {x y z : Int32} (hV : Vv K E P (m.1 0)) (h3 : ¬ (∃ p, p < E ∧ x = nI p) → Q (.inr 3) m c n) (h2 : ∀ p, p < E → x = nI p → ¬ ((∃ D, D ≤ 9 ∧ y = nI D) ∧ ∃ k, k ≤ 3 ∧ z = nI k) → Q (.inr 2) m c n) (h : ∀ e D k, e < E → x = nI e → D ≤ 9 → y = nI D → k ≤ 3 → z = nI k → Q (.inl (some (pI (m.1 0 2 0 (16 * D + 4 * k + e))))) m c n) : Wq g (d + 6) MX4_slot c n 0 [some (pO 10 8 0), some (pI x), some (pI y), some (pI z)] [] m Q := by
  have hE := hV.1.E4
  refine sgX4_slot ?_
  rw [hV.1.hE, hasX (by omega) x, show (9 : Int32) = nI 9 from rfl, inX (by decide) y, show (3 : Int32) = nI 3 from rfl, inX (by decide) z]
  refine ⟨fun q => ?_, fun q => h3 q⟩
  obtain ⟨e, he, rfl⟩ := q
  refine ⟨fun q => h2 e he rfl (fun v => q v.1), fun q => ⟨fun q2 => ?_, fun q2 => h2 e he rfl (fun v => q2 v.2)⟩⟩
  obtain ⟨D, hD, rfl⟩ := q
  obtain ⟨k, hk, rfl⟩ := q2
  simp (disch := omega) only [ixn, nI_1, nI_add, pk_mul, nI_p0, of0, of1, of2, of3, of4, of5, of6, of7, of8, dv16, dv4, rm4, at_n, pl_n, ce_n, oe_n, oe0, oe1, oe2, ix_0, ix_1, ix_2, ix_3, ix_4, ix_5, ix_6, ix_7, ix_8]
  exact ⟨vp_in_nI (by omega) (by decide), h e D k he rfl hD rfl hk rfl⟩
def cCnt (E P S : Nat) (τ : Nat → Nat → Nat → Int32) (w : Nat) : Int32 := if w = 14 then nI S else cNum E P τ w
theorem co_count {x : Int32} (hV : Vv K E P (m.1 0)) (hS : m.1 8 10 0 3 = nI S) (h2 : ¬ (∃ w, w ≤ 14 ∧ x = nI w) → Q (.inr 2) m c n) (h : ∀ w, w ≤ 14 → x = nI w → Q (.inl (some (pI (cCnt E P S (m.1 0) w)))) m c n) : Wq g (d + 6) MX4_count c n 0 [some (pO 10 8 0), some (pI x)] [] m Q := by
  refine sgX4_count ?_
  rw [show (14 : Int32) = nI 14 from rfl, inX (by decide) x]
  refine ⟨fun q => ?_, fun q => h2 q⟩
  obtain ⟨w, hw, rfl⟩ := q
  have := h w hw rfl
  unfold cCnt at this
  rw [nI_eq (by omega) (by decide)]
  refine ⟨fun q => ?_, fun q => ?_⟩
  · rw [if_neg q] at this
    exact co_number hV.1.hE hV.1.E4 hV.1.hP hV.1.P12 (by omega) ⟨rfl, rfl, this⟩
  · rw [if_pos q] at this
    rw [hS]
    exact this
theorem co_setting {x : Int32} (h3 : ¬ (∃ k, k ≤ 3 ∧ x = nI k) → Q (.inr 3) m c n) (h : ∀ k, k ≤ 3 → x = nI k → Q (.inl (some (pI (m.1 0 1 0 k)))) m c n) : Wq g (d + 6) MX4_setting c n 0 [some (pO 10 8 0), some (pI x)] [] m Q := by
  refine sgX4_setting ?_
  rw [show ((4 : Int32) - 1) = nI 3 from rfl, inX (by decide) x]
  refine ⟨fun q => ?_, fun q => h3 q⟩
  obtain ⟨k, hk, rfl⟩ := q
  rw [ixn (by omega)]
  exact ⟨vp_in_nI (by omega) (by decide), h k hk rfl⟩
theorem co_earliest {x y : Int32} (hV : Vv K E P (m.1 0)) (h3 : ¬ (∃ p, p < P ∧ x = nI p) → Q (.inr 3) m c n) (h2 : ∀ p, p < P → x = nI p → ¬ (∃ w, w ≤ 2 ∧ y = nI w) → Q (.inr 2) m c n) (h : ∀ p w, p < P → x = nI p → w ≤ 2 → y = nI w → Q (.inl (some (pI (cTell (fnd (cCan (m.1 0) p) 160 0) w)))) m c n) : Wq g (d + 6) MX4_earliest c n 0 [some (pO 10 8 0), some (pI x), some (pI y)] [] m Q := by
  have hP := hV.1.P12
  refine sgX4_earliest ?_
  rw [hV.1.hP, hasX hP x, show (2 : Int32) = nI 2 from rfl, inX (by decide) y]
  refine ⟨fun q => ?_, fun q => h3 q⟩
  obtain ⟨p, hp, rfl⟩ := q
  refine ⟨fun q => ?_, fun q => h2 p hp rfl q⟩
  obtain ⟨w, hw, rfl⟩ := q
  refine co_earliestCell (by omega) ⟨rfl, rfl, ?_⟩
  have e := tell_eq (o := fnd (cCan (m.1 0) p) 160 0) (fun i hi => by obtain ⟨_, a, _⟩ := fnd_some hi; omega) (x := nI w) (w := w) rfl (by omega)
  exact (congrArg (fun z => Q (.inl (some (pI z))) m c n) e).mpr (h p w hp rfl hw rfl)
theorem co_ifTested {x y : Int32} (hV : Vv K E P (m.1 0)) (h3 : ¬ ((∃ p, p < P ∧ x = nI p) ∧ ∃ e, e < E ∧ y = nI e) → Q (.inr 3) m c n) (h : ∀ p e, p < P → x = nI p → e < E → y = nI e → Q (.inl (some (pI (nI (cRoute (m.1 0 6 e) (m.1 0 4 p 3)))))) m c n) : Wq g (d + 6) MX4_ifTested c n 0 [some (pO 10 8 0), some (pI x), some (pI y)] [] m Q := by
  have hP := hV.1.P12
  have hE := hV.1.E4
  refine sgX4_ifTested ?_
  rw [hV.1.hP, hV.1.hE, hasX hP x, hasX (by omega) y]
  refine ⟨fun q => h3 (fun v => q v.1), fun q => ⟨fun q2 => ?_, fun q2 => h3 (fun v => q2 v.2)⟩⟩
  obtain ⟨p, hp, rfl⟩ := q
  obtain ⟨e, he, rfl⟩ := q2
  exact co_routeFor (by omega) (by omega) ⟨rfl, rfl, h p e hp rfl he rfl⟩
theorem co_couldHave {x : Int32} (hV : Vv K E P (m.1 0)) (h2 : ¬ (∃ D, D ≤ 9 ∧ x = nI D) → Q (.inr 2) m c n) (h : ∀ D, D ≤ 9 → x = nI D → Q (.inl (some (pI (nI (cMost (m.1 0) E P D 16))))) m c n) : Wq g (d + 6) MX4_couldHave c n 0 [some (pO 10 8 0), some (pI x)] [] m Q := by
  refine sgX4_couldHave ?_
  rw [show (9 : Int32) = nI 9 from rfl, inX (by decide) x]
  refine ⟨fun q => ?_, fun q => h2 q⟩
  obtain ⟨D, hD, rfl⟩ := q
  exact co_mostWithSlotsOf hV.1.hE hV.1.E4 hV.1.hP hV.1.P12 (by omega) ⟨rfl, rfl, h D hD rfl⟩
theorem co_ifCancelled {x y z : Int32} (hV : Vv K E P (m.1 0)) (hK : K + 3 < 2 ^ 31) (h3 : ¬ (∃ p, p < E ∧ x = nI p) → Q (.inr 3) m c n) (h2 : ∀ p, p < E → x = nI p → ¬ ((∃ D, D ≤ 9 ∧ y = nI D) ∧ ∃ k, k ≤ 2 ∧ z = nI k) → Q (.inr 2) m c n) (h : ∀ e D w, e < E → x = nI e → D ≤ 9 → y = nI D → w ≤ 2 → z = nI w → ∀ τ1, Q (.inl (some (pI (cIf P (m.1 0) e D w)))) (rset m 1 τ1) c n) : Wq g (d + 6) MX4_ifCancelled c n 0 [some (pO 10 8 0), some (pI x), some (pI y), some (pI z)] [] m Q := by
  have hP := hV.1.P12
  have hE := hV.1.E4
  refine sgX4_ifCancelled ?_
  rw [hV.1.hE, hasX (by omega) x, show (9 : Int32) = nI 9 from rfl, inX (by decide) y, show (2 : Int32) = nI 2 from rfl, inX (by decide) z]
  refine ⟨fun q => ?_, fun q => h3 q⟩
  obtain ⟨e, he, rfl⟩ := q
  refine ⟨fun q => h2 e he rfl (fun v => q v.1), fun q => ⟨fun q2 => ?_, fun q2 => h2 e he rfl (fun v => q2 v.2)⟩⟩
  obtain ⟨D, hD, rfl⟩ := q
  obtain ⟨w, hw, rfl⟩ := q2
  have h := h e D w he rfl hD rfl hw rfl
  refine co_copyFrom (by decide) fun τt ht => ⟨rfl, rfl, ?_⟩
  refine co_cancelMorning (K := K) (E := E) (P := P) (by rw [rset_s]; exact Cp_Iv ht hV.1) hK he (by omega) fun τ1 a => ⟨rfl, rfl, ?_⟩
  rw [rset_s] at a
  rw [rset_s, rset_rset]
  have hc : Cp τ1 (give P (fCan0 P (m.1 0) e D)) := Cp_ap a Ap_rfl (Cp_give (Cp_can0 ht hP (by omega) (by omega)) hP)
  have em : cMoved P τt e D = cMoved P (m.1 0) e D := by
    unfold cMoved
    rw [ht.2.2.1 _ (by omega), ht.2.2.1 _ (by omega)]
  rw [em]
  have h := h τ1
  unfold cIf at h
  refine ⟨fun q => ?_, fun q => ?_⟩
  · have q0 : w ≠ 0 := fun v => q (by rw [v]; rfl)
    rw [if_neg q0] at h
    -- one slot
    have stp : ∀ k a b, k < 2 → Wq g (d + 6) MX4_ifCancelled c n 90 [some (pO 10 8 0), some (pI (nI e)), some (pI (nI D)), some (pI (nI w)), none, some (pI (a + cWai P (m.1 0) e D k)), some (pI (b + cLat P (m.1 0) e D k)), some (pI (nI (k + 1))), none, none] [] (rset m 1 τ1) Q → Wq g (d + 6) MX4_ifCancelled c n 90 [some (pO 10 8 0), some (pI (nI e)), some (pI (nI D)), some (pI (nI w)), none, some (pI a), some (pI b), some (pI (nI k)), none, none] [] (rset m 1 τ1) Q := by
      intro k a b hk hn
      have hb : 16 * D + 4 * k + e < 160 := by omega
      refine sgX4_ifCancelled_90 ⟨fun v => absurd v (ngeL hk (by decide)), fun _ => ⟨by rw [ce_n]; exact vp_in_nI hb (by decide), ?_⟩⟩
      rw [rset_n (show 0 ≠ 1 by decide)]
      simp (disch := omega) only [ixn, nI_1, nI_add, pk_mul, nI_p0, of0, of1, of2, of3, of4, of5, of6, of7, of8, dv16, dv4, rm4, at_n, pl_n, ce_n, oe_n, oe0, oe1, oe2, ix_0, ix_1, ix_2, ix_3, ix_4, ix_5, ix_6, ix_7, ix_8]
      rw [hV.1.hP]
      have hpu : isPu P (m.1 0 2 0 (16 * D + 4 * k + e)) = true ↔ ((¬ m.1 0 2 0 (16 * D + 4 * k + e) < 0) ∧ (¬ nI P ≤ m.1 0 2 0 (16 * D + 4 * k + e))) := by unfold isPu; rw [decide_eq_true_eq]
      unfold cWai cLat at hn
      by_cases hz : isPu P (m.1 0 2 0 (16 * D + 4 * k + e)) = true
      · rw [if_pos hz, if_pos hz] at hn
        refine ⟨fun v => absurd (hpu.mp hz) v, fun _ => ?_⟩
        refine co_cellOf ⟨rfl, rfl, ?_⟩
        rw [rset_s]
        have ec : cDay (cCell τ1 (m.1 0 2 0 (16 * D + 4 * k + e))) = cNew P (m.1 0) e D k := by unfold cNew; rw [Cp_cell hc]
        have et := tell_eq (o := cCell τ1 (m.1 0 2 0 (16 * D + 4 * k + e))) (fun i hi => cCell_lt hi) (x := 0) (w := 0) rfl (by decide)
        have e2 : ∀ o, cTell o 0 = cDay o := fun o => by cases o <;> rfl
        rw [e2, ec] at et
        have et' : ((if ¬ oI (fnd (fun i => decide (τ1 2 0 i = m.1 0 2 0 (16 * D + 4 * k + e))) 160 0) = (-1) then (if (0 : Int32) = 0 then (oI (fnd (fun i => decide (τ1 2 0 i = m.1 0 2 0 (16 * D + 4 * k + e))) 160 0) / 16) else (if (0 : Int32) = 1 then (irm (oI (fnd (fun i => decide (τ1 2 0 i = m.1 0 2 0 (16 * D + 4 * k + e))) 160 0) / 4) 4) else (irm (oI (fnd (fun i => decide (τ1 2 0 i = m.1 0 2 0 (16 * D + 4 * k + e))) 160 0)) 4))) else (-1)) : Int32) = cNew P (m.1 0) e D k := et
        dsimp only [cI]
        simp only [eq_self, if_true] at et' ⊢
        rw [et']
        refine ⟨fun v => ⟨fun _ => ?_, fun v2 => absurd v2 v⟩, fun v => ⟨fun v2 => absurd v v2, fun _ => ?_⟩⟩
        · rw [if_neg v, if_neg v] at hn
          exact hn
        · rw [if_pos v, if_pos v] at hn
          exact hn
      · rw [if_neg hz, if_neg hz] at hn
        refine ⟨fun _ => ?_, fun v => absurd (hpu.mpr v) hz⟩
        rw [show ∀ v : Int32, v + 0 = v from fun v => by simp, show ∀ v : Int32, v + 0 = v from fun v => by simp] at hn
        exact hn
    refine stp 0 0 1000 (by decide) (stp 1 _ _ (by decide) ?_)
    refine sgX4_ifCancelled_90 ⟨fun _ => ⟨fun v => ?_, fun v => ?_⟩, fun v => absurd (by decide) v⟩
    · have v1 : w ≠ 1 := fun z => v (by rw [z]; rfl)
      rw [if_neg v1] at h
      exact h
    · have v1 : w = 1 := nI_i (b := 1) (by omega) (by decide) v
      rw [if_pos v1] at h
      rw [show (0 : Int32) + cWai P (m.1 0) e D 0 = cWai P (m.1 0) e D 0 by simp]
      exact h
  · have q0 : w = 0 := nI_i (b := 0) (by omega) (by decide) q
    rw [if_pos q0] at h
    exact h
end O10
