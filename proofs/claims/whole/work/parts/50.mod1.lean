/-! THE MODEL: its answers and deeds, told by any office that its row shows -/
section M1
variable {g : GG} {d : Nat} {c n : Nat} {m : PM} {Q : Ou → PM → Nat → Nat → Prop} {K E P : Nat} {τ : Nat → Nat → Nat → Int32}
theorem Rel.h (h : Rel E P τ (m.1 9 21 0)) {k : Nat} (hk : k < 5) : m.1 9 21 0 k = τ 0 0 k := h.1 k hk
theorem Rel.s (h : Rel E P τ (m.1 9 21 0)) {k : Nat} (hk : k < 4) : m.1 9 21 0 (5 + k) = τ 1 0 k := h.2.1 k hk
theorem Rel.ce' (h : Rel E P τ (m.1 9 21 0)) {i : Nat} (hi : i < 160) (hE : i % 4 < E) : m.1 9 21 0 (9 + 40 * (i % 4) + i / 4) = τ 2 0 i := h.2.2.1 i hi hE
theorem Rel.p (h : Rel E P τ (m.1 9 21 0)) {p k : Nat} (hp : p < P) (hk : k < 9) : m.1 9 21 0 (197 + 12 * p + k) = τ 4 p k := h.2.2.2.1 p hp k hk
theorem can_iff (hR : Rel E P τ (m.1 9 21 0)) (hI : Iv K E P τ) {p i : Nat} (hp : p < P) (hi : i < 160) : ((¬ m.1 9 21 0 1 ≤ nI (i % 4)) ∧ ((m.1 9 21 0 (9 + 40 * (i % 4) + i / 4) = -1) ∧ ((¬ (m.1 9 21 0 0 + nI (i / 16)) < m.1 9 21 0 (197 + 12 * p + 2)) ∧ ((m.1 9 21 0 6 = 0) ∨ (¬ nI (i % 4) = m.1 9 21 0 (197 + 12 * p + 4)))))) ↔ cCan τ p i = true := by
  have hE := hI.E4
  rw [hR.h (k := 1) (by decide), hR.h (k := 0) (by decide), hR.p hp (k := 2) (by decide), hR.p hp (k := 4) (by decide), hR.s (k := 1) (by decide), hI.hE, nI_leI (by omega) (by omega)]
  simp only [cCan, cCome, cMeet, Bool.and_eq_true, decide_eq_true_eq]
  constructor
  · rintro ⟨h1, h2, h3, h4⟩
    rw [hR.ce' hi (by omega)] at h2
    exact ⟨h2, h3, h4.imp id (fun z y => z y.symm)⟩
  · rintro ⟨h2, h3, h4⟩
    have hq : i % 4 < E := hI.ceE hi (by rw [h2]; decide)
    rw [hR.ce' hi hq]
    exact ⟨by omega, h2, h3, h4.imp id (fun z y => z y.symm)⟩
theorem mo_earliestOf {p : Nat} (hR : Rel E P τ (m.1 9 21 0)) (hI : Iv K E P τ) (hp : p < P) (h : Q (.inl (some (pI (oI (fnd (cCan τ p) 160 0))))) m c n) : Wq g (d + 3) MX5_earliestOf c n 0 [some (pO 20 9 0), some (pI (nI p))] [] m Q := by
  have hP := hI.P12
  refine sgX5_earliestOf ?_
  refine Wq.up (S := Unit) 160 (fun i _ => [some (pO 20 9 0), some (pI (nI p)), some (pI (nI i))]) (fun _ _ => m) (fun i _ => Q (.inl (some (pI (oI (fnd (cCan τ p) (160 - i) i))))) m c n) (fun _ hI => ?_) (fun i _ hi hL ih => ?_) 0 () (by omega) h
  · exact sgX5_earliestOf_2 ⟨fun _ => hI, fun q => absurd (geL (Nat.le_refl 160) (by decide)) q⟩
  · rw [show 160 - i = (160 - (i + 1)) + 1 by omega, fnd] at hL
    have hc := can_iff hR hI hp hi
    refine sgX5_earliestOf_2 ⟨fun q => absurd q (ngeL hi (by decide)), fun _ => ?_⟩
    simp (disch := omega) only [ixn, nI_1, nI_add, pk_mul, nI_p0, of0, of1, of2, of3, of4, of5, of6, of7, of8, dv16, dv4, rm4, at_n, pl_n, ce_n, oe_n, oe0, oe1, oe2, ix_0, ix_1, ix_2, ix_3, ix_4, ix_5, ix_6, ix_7, ix_8]
    refine ⟨fun _ => ⟨vp_in_nI (by omega) (by decide), fun _ => ⟨vp_in_nI (by omega) (by decide), fun _ _ => ⟨vp_in_nI (by omega) (by decide), trivial⟩⟩⟩, fun q => ?_, fun q => ?_⟩
    · rw [if_neg (fun z => q (hc.mpr z))] at hL
      exact ih () hL
    · rw [if_pos (hc.mp q)] at hL
      exact hL
theorem mo_slotBy {p : Nat} (hR : Rel E P τ (m.1 9 21 0)) (hI : Iv K E P τ) (hp : p < P) (h : Q (.inl (some (pI (oI (cCell τ (nI p)))))) m c n) : Wq g (d + 2) MX5_slotBy c n 0 [some (pO 20 9 0), some (pI (nI p))] [] m Q := by
  have hP := hI.P12
  have hE := hI.E4
  refine sgX5_slotBy ?_
  refine Wq.up (S := Unit) 160 (fun i _ => [some (pO 20 9 0), some (pI (nI p)), some (pI (nI i))]) (fun _ _ => m) (fun i _ => Q (.inl (some (pI (oI (fnd (fun i => decide (τ 2 0 i = nI p)) (160 - i) i))))) m c n) (fun _ hI => ?_) (fun i _ hi hL ih => ?_) 0 () (by omega) h
  · exact sgX5_slotBy_2 ⟨fun _ => hI, fun q => absurd (geL (Nat.le_refl 160) (by decide)) q⟩
  · rw [show 160 - i = (160 - (i + 1)) + 1 by omega, fnd] at hL
    refine sgX5_slotBy_2 ⟨fun q => absurd q (ngeL hi (by decide)), fun _ => ?_⟩
    simp (disch := omega) only [ixn, nI_1, nI_add, pk_mul, nI_p0, of0, of1, of2, of3, of4, of5, of6, of7, of8, dv16, dv4, rm4, at_n, pl_n, ce_n, oe_n, oe0, oe1, oe2, ix_0, ix_1, ix_2, ix_3, ix_4, ix_5, ix_6, ix_7, ix_8]
    rw [hR.h (k := 1) (by decide), hI.hE, nI_leI (by omega) (by omega)]
    refine ⟨fun q => ?_, fun q => ⟨vp_in_nI (by omega) (by decide), fun q2 => ?_, fun q2 => ?_⟩⟩
    · rw [if_neg (by rw [decide_eq_true_eq]; exact fun z => absurd (hI.ceE' hp hi z) (by omega))] at hL
      exact ih () hL
    · rw [hR.ce' hi (by omega)] at q2
      rw [if_neg (by simpa using q2)] at hL
      exact ih () hL
    · rw [hR.ce' hi (by omega)] at q2
      rw [if_pos (by simpa using q2)] at hL
      exact hL
theorem Iv.mv (h : Iv K E P τ) {p : Nat} (hp : p < P) : ∃ v, τ 4 p 5 = nI v ∧ v ≤ K := h.2.2.2.2.1 p hp
theorem ah_mo (hI : Iv K E P τ) (hK : K < 2 ^ 31) {p q : Nat} (hp : p < P) (hq : q < P) : ((0 < τ 4 q 5 - τ 4 p 5) ∨ ((τ 4 q 5 - τ 4 p 5 = 0) ∧ (¬ τ 4 p 6 ≤ τ 4 q 6))) ↔ cAhead τ q p = true := by
  obtain ⟨v, hv, hvK⟩ := hI.mv hp
  obtain ⟨w, hw, hwK⟩ := hI.mv hq
  have hs : (nI w - nI v).toInt = (w : Int) - v := by
    rw [Int32.toInt_sub, nI_toInt (by omega), nI_toInt (by omega)]
    rw [Int.bmod_eq_of_le] <;> omega
  have e0 : nI w - nI v = 0 ↔ nI w = nI v := by
    rw [← Int32.toInt_inj, hs, ← Int32.toInt_inj, nI_toInt (by omega), nI_toInt (by omega), show (0 : Int32).toInt = 0 by decide]
    omega
  have e1 : 0 < nI w - nI v ↔ nI v < nI w := by
    rw [Int32.lt_iff_toInt_lt, hs, Int32.lt_iff_toInt_lt, nI_toInt (by omega), nI_toInt (by omega), show (0 : Int32).toInt = 0 by decide]
    omega
  rw [cAhead, decide_eq_true_eq, hv, hw, e0, e1]
theorem mo_placeInOrder {p : Nat} (hR : Rel E P τ (m.1 9 21 0)) (hI : Iv K E P τ) (hK : K < 2 ^ 31) (hp : p < P) (h : Q (.inl (some (pI (nI (cPlace τ P p))))) m c n) : Wq g (d + 2) MX5_placeInOrder c n 0 [some (pO 20 9 0), some (pI (nI p))] [] m Q := by
  have hP := hI.P12
  refine sgX5_placeInOrder ?_
  refine Wq.up (S := Unit) P (fun i _ => [some (pO 20 9 0), some (pI (nI p)), some (pI (nI (cN (fun q => decide (τ 4 q 0 = 1) && cAhead τ q p) i))), some (pI (nI i))]) (fun _ _ => m) (fun i _ => True) (fun _ _ => ?_) (fun i _ hi hL ih => ?_) 0 () (by omega) trivial
  · refine sgX5_placeInOrder_4 ⟨fun _ => h, fun q => absurd ?_ q⟩
    rw [ix_2, hR.h (k := 2) (by decide), hI.hP]
    exact geL (Nat.le_refl P) (by omega)
  · have := ih () trivial
    rw [cN] at this
    refine sgX5_placeInOrder_4 ⟨fun q => absurd ?_ (ngeL hi (show P < 2 ^ 31 by omega)), fun _ => ?_⟩
    · rw [ix_2, hR.h (k := 2) (by decide), hI.hP] at q
      exact q
    · simp (disch := omega) only [ixn, nI_1, nI_add, pk_mul, nI_p0, of0, of1, of2, of3, of4, of5, of6, of7, of8, dv16, dv4, rm4, at_n, pl_n, ce_n, oe_n, oe0, oe1, oe2, ix_0, ix_1, ix_2, ix_3, ix_4, ix_5, ix_6, ix_7, ix_8]
      rw [hR.p hi (k := 0) (by decide), hR.p hi (k := 5) (by decide), hR.p hi (k := 6) (by decide), hR.p hp (k := 5) (by decide), hR.p hp (k := 6) (by decide), ah_mo hI hK hp hi]
      refine ⟨vp_in_nI (by omega) (by decide), fun q => ?_, fun q => ⟨⟨vp_in_nI (by omega) (by decide), vp_in_nI (by omega) (by decide), fun _ _ => ⟨vp_in_nI (by omega) (by decide), vp_in_nI (by omega) (by decide), trivial⟩⟩, fun q2 => ?_, fun q2 => ?_⟩⟩
      · rw [if_neg (by simp [q])] at this
        exact this
      · rw [if_neg (by simp [q2])] at this
        exact this
      · rw [if_pos (by simp [q, q2])] at this
        exact this
/-- the model's other rows stay -/
def Fr (μ μ0 : Nat → Nat → Nat → Int32) : Prop := ∀ t, t ≠ 21 → t ≠ 25 → μ t = μ0 t
theorem Fr_rfl {μ : Nat → Nat → Nat → Int32} : Fr μ μ := fun _ _ _ => by trivial
theorem Fr_trans {a b e : Nat → Nat → Nat → Int32} (h : Fr a b) (k : Fr b e) : Fr a e := fun t q r => (h t q r).trans (k t q r)
theorem Fr_21 {μ : Nat → Nat → Nat → Int32} {j k : Nat} {x : Int32} : Fr (tI μ 21 j k x) μ := fun t q _ => tI_t q
theorem Fr_25 {μ : Nat → Nat → Nat → Int32} {j k : Nat} {x : Int32} : Fr (tI μ 25 j k x) μ := fun t _ q => tI_t q
theorem tI_r {τ : Nat → Nat → Nat → Int32} {t j k : Nat} {x : Int32} : tI τ t j k x t j = upd (τ t j) k x := by simp [tI, tset]
theorem mo_giveOut (hR : Rel E P τ (m.1 9 21 0)) (hI : Iv K E P τ) (hK : K < 2 ^ 31) (h : ∀ μ, Fr μ (m.1 9) → Rel E P (give P τ) (μ 21 0) → Q (.inl none) (rset m 9 μ) c n) : Wq g (d + 4) MX5_giveOut c n 0 [some (pO 20 9 0)] [] m Q := by
  have hP := hI.P12
  have hE := hI.E4
  have hd := hI.dw
  have hw12 : wN P τ ≤ 12 := Nat.le_trans (cN_le _ _) hP
  refine sgX5_giveOut ?_
  have key := Wq.up (g := g) (d := d + 4) (M := MX5_giveOut) (c := c) (n := n) (pc := 4) (Q := Q) (S := Nat → Nat → Nat → Int32) P (fun k _ => [some (pO 20 9 0), some (pI (nI (cN (wt τ) k))), some (pI (nI k)), none, none]) (fun _ μ => rset m 9 μ) (fun k μ => μ 21 = m.1 9 21 ∧ Fr μ (m.1 9) ∧ ∀ p, p < k → wt τ p = true → μ 25 0 (cPlace τ P p) = nI p) (fun μ hL => ?_) (fun k μ hk hL ih => ?_) 0 (m.1 9) (by omega) ⟨rfl, Fr_rfl, fun p hp => by omega⟩
  · rw [rset_id] at key
    exact key
  · obtain ⟨e21, fr, q1⟩ := hL
    refine sgX5_giveOut_4 ⟨fun _ => ?_, fun q => absurd ?_ q⟩
    · have F0 : ∀ μ', Fr μ' μ → Rel E P (gRun (qAt P τ) (wN P τ - 0) 0 τ) (μ' 21 0) → Q (.inl none) (rset m 9 μ') c n := fun μ' a b => h μ' (Fr_trans a fr) b
      have hq1 : ∀ j, j < wN P τ → μ 25 0 j = nI (qAt P τ j) := fun j hj => by
        obtain ⟨b1, b2, b3⟩ := ord2 hd hj
        have := q1 _ b1 b2
        rw [b3] at this
        exact this
      refine Wq.up (S := (Nat → Nat → Nat → Int32) × (Nat → Nat → Nat → Int32)) (wN P τ) (fun k _ => [some (pO 20 9 0), some (pI (nI (wN P τ))), some (pI (nI k)), none, none]) (fun _ s => rset m 9 s.1) (fun k s => Iv K E P s.2 ∧ Gd P (wN P τ) (qAt P τ) k s.2 ∧ Rel E P s.2 (s.1 21 0) ∧ s.1 25 = μ 25 ∧ ∀ μ', Fr μ' s.1 → Rel E P (gRun (qAt P τ) (wN P τ - k) k s.2) (μ' 21 0) → Q (.inl none) (rset m 9 μ') c n) (fun s hL => ?_) (fun k s hk hL ih => ?_) 0 (μ, τ) (by omega) ⟨hI, Gd_0 hd, by show Rel E P τ (μ 21 0); rw [e21]; exact hR, rfl, F0⟩
      · obtain ⟨_, _, r3, _, r5⟩ := hL
        refine sgX5_giveOut_50 ⟨fun _ => ?_, fun q => absurd (geL (Nat.le_refl _) (by omega)) q⟩
        rw [Nat.sub_self] at r5
        exact r5 s.1 Fr_rfl r3
      · obtain ⟨μ1, τ1⟩ := s
        obtain ⟨i1, i2, i3, i4, i5⟩ := hL
        dsimp only at i1 i2 i3 i4 i5 ih ⊢
        obtain ⟨hqP, hqs⟩ := i2.1 k (Nat.le_refl k) hk
        refine sgX5_giveOut_50 ⟨fun q => absurd q (ngeL hk (by omega)), fun _ => ⟨vp_in_nI (by omega) (by decide), ?_⟩⟩
        rw [ixn (by omega), rset_s, i4, hq1 k hk]
        have hst : ∀ τ'' μ'', gStep τ1 (qAt P τ k) = τ'' → Fr μ'' μ1 → μ'' 25 = μ1 25 → Rel E P τ'' (μ'' 21 0) → Wq g (d + 4) MX5_giveOut c n 50 [some (pO 20 9 0), some (pI (nI (wN P τ))), some (pI (nI (k + 1))), none, none] [] (rset m 9 μ'') Q := fun τ'' μ'' he f1 f2 f3 => by
          subst he
          refine ih (μ'', _) ⟨gStep_Iv i1 hqP hqs, Gd_next hk i2, f3, f2.trans i4, fun μ' a b => i5 μ' (Fr_trans a f1) ?_⟩
          rw [show wN P τ - k = (wN P τ - (k + 1)) + 1 by omega, gRun]
          exact b
        refine mo_earliestOf (τ := τ1) (by rw [rset_s]; exact i3) i1 hqP ⟨rfl, rfl, ?_⟩
        dsimp only [cI]
        unfold gStep at hst
        cases e : fnd (cCan τ1 (qAt P τ k)) 160 0 with
        | none =>
          rw [e] at hst
          refine ⟨fun _ => ?_, fun z => absurd rfl z⟩
          rw [nI_1]
          exact hst τ1 μ1 rfl Fr_rfl rfl i3
        | some i =>
          rw [e] at hst
          obtain ⟨_, hi, hci, _⟩ := fnd_some e
          have hi' : i < 160 := by omega
          have hiE : i % 4 < E := by
            refine i1.ceE hi' ?_
            unfold cCan at hci
            rw [Bool.and_eq_true, decide_eq_true_eq] at hci
            rw [hci.1]
            decide
          simp only [oI]
          refine ⟨fun z => absurd z (nI_m1 (by omega)), fun _ => ?_⟩
          simp (disch := omega) only [ixn, nI_1, nI_add, pk_mul, nI_p0, of0, of1, of2, of3, of4, of5, of6, of7, of8, dv16, dv4, rm4, at_n, pl_n, ce_n, oe_n, oe0, oe1, oe2, ix_0, ix_1, ix_2, ix_3, ix_4, ix_5, ix_6, ix_7, ix_8, setI_eq, rset_rset, rset_s, rset_2, tI_s, tI_t, tI_j, tI_k]
          refine ⟨vp_in_nI (by omega) (by decide), vp_in_nI (by omega) (by decide), ?_⟩
          refine hst _ _ rfl (Fr_trans Fr_21 Fr_21) (by simp (disch := omega) only [setI_eq, rset_rset, rset_s, rset_2, tI_s, tI_t, tI_j, tI_k]) ?_
          rw [tI_r, tI_r]
          exact Rel_pu (Rel_ce i3 hE hi' _) hE (by decide) _
    · rw [rset_s, e21, ix_2, hR.h (k := 2) (by decide), hI.hP]
      exact geL (Nat.le_refl P) (by omega)
  · obtain ⟨e21, fr, q1⟩ := hL
    have hR' : Rel E P τ ((rset m 9 μ).1 9 21 0) := by rw [rset_s, e21]; exact hR
    refine sgX5_giveOut_4 ⟨fun q => absurd ?_ (ngeL hk (show P < 2 ^ 31 by omega)), fun _ => ?_⟩
    · rw [ix_2, hR'.h (k := 2) (by decide), hI.hP] at q
      exact q
    · simp (disch := omega) only [ixn, nI_1, nI_add, pk_mul, nI_p0, of0, of1, of2, of3, of4, of5, of6, of7, of8, dv16, dv4, rm4, at_n, pl_n, ce_n, oe_n, oe0, oe1, oe2, ix_0, ix_1, ix_2, ix_3, ix_4, ix_5, ix_6, ix_7, ix_8]
      rw [hR'.p hk (k := 0) (by decide)]
      refine ⟨vp_in_nI (by omega) (by decide), fun q => ?_, fun q => ?_⟩
      · have hwk : ¬ wt τ k = true := by simpa [wt] using q
        have := ih μ ⟨e21, fr, fun p hp hw => q1 p (by rcases Nat.lt_succ_iff_lt_or_eq.mp hp with z | z; exact z; subst z; exact absurd hw hwk) hw⟩
        rw [cN, if_neg hwk] at this
        exact this
      · have hwk : wt τ k = true := by simpa [wt] using q
        have hpl := ord1 hk hwk
        refine mo_placeInOrder hR' hI hK hk ⟨rfl, rfl, ?_⟩
        dsimp only [cI]
        simp (disch := omega) only [ixn, nI_1, nI_add, pk_mul, nI_p0, of0, of1, of2, of3, of4, of5, of6, of7, of8, dv16, dv4, rm4, at_n, pl_n, ce_n, oe_n, oe0, oe1, oe2, ix_0, ix_1, ix_2, ix_3, ix_4, ix_5, ix_6, ix_7, ix_8, setI_eq, rset_rset, rset_s, rset_2, tI_s, tI_t, tI_j, tI_k]
        refine ⟨vp_in_nI (by omega) (by decide), ?_⟩
        have := ih (tI μ 25 0 (cPlace τ P k) (nI k)) ⟨by rw [tI_t (by decide)]; exact e21, Fr_trans Fr_25 fr, fun p hp hw => ?_⟩
        · rw [cN, if_pos hwk] at this
          exact this
        · by_cases e : p = k
          · subst e; rw [tI_s]
          · rw [tI_k (fun z => e (ord3 hd (by omega) hk hw hwk z))]
            exact q1 p (by omega) hw
end M1
