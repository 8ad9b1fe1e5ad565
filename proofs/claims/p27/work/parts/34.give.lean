/-! GIVING SLOTS OUT -/
def gStep (τ : Nat → Nat → Nat → Int32) (p : Nat) : Nat → Nat → Nat → Int32 := match fnd (cCan τ p) 160 0 with
  | none => τ
  | some i => tI (tI τ 2 0 i (nI p)) 4 p 0 2
def gRun (q : Nat → Nat) : Nat → Nat → (Nat → Nat → Nat → Int32) → Nat → Nat → Nat → Int32
  | 0, _, τ => τ
  | n + 1, k, τ => gRun q n (k + 1) (gStep τ (q k))
def give (P : Nat) (τ : Nat → Nat → Nat → Int32) : Nat → Nat → Nat → Int32 := gRun (qAt P τ) (wN P τ) 0 τ
theorem cCan_ap {τ τ' : Nat → Nat → Nat → Int32} (a : Ap τ τ') (p : Nat) : cCan τ p = cCan τ' p := by
  funext i
  unfold cCan cCome cMeet
  rw [a 0 (by decide), a 1 (by decide), a 2 (by decide), a 4 (by decide)]
theorem cPlace_ap {τ τ' : Nat → Nat → Nat → Int32} (a : Ap τ τ') (P : Nat) : cPlace τ P = cPlace τ' P := by
  funext i
  unfold cPlace cAhead
  rw [a 4 (by decide)]
theorem wt_ap {τ τ' : Nat → Nat → Nat → Int32} (a : Ap τ τ') : wt τ = wt τ' := by
  funext i
  unfold wt
  rw [a 4 (by decide)]
theorem wN_ap {τ τ' : Nat → Nat → Nat → Int32} (a : Ap τ τ') (P : Nat) : wN P τ = wN P τ' := by
  unfold wN
  rw [wt_ap a]
theorem qAt_ap {τ τ' : Nat → Nat → Nat → Int32} (a : Ap τ τ') (P : Nat) : qAt P τ = qAt P τ' := by
  funext k
  unfold qAt
  rw [wt_ap a, cPlace_ap a]
theorem gStep_ap {τ τ' : Nat → Nat → Nat → Int32} (a : Ap τ τ') (p : Nat) : Ap (gStep τ p) (gStep τ' p) := by
  unfold gStep
  rw [cCan_ap a]
  cases fnd (cCan τ' p) 160 0 with
  | none => exact a
  | some i => exact Ap_tI (Ap_tI a _ _ _ _) _ _ _ _
theorem gRun_ap {q : Nat → Nat} : ∀ {n k : Nat} {τ τ' : Nat → Nat → Nat → Int32}, Ap τ τ' → Ap (gRun q n k τ) (gRun q n k τ')
  | 0, _, _, _, a => a
  | n + 1, k, _, _, a => gRun_ap (n := n) (gStep_ap a (q k))
theorem give_ap {P : Nat} {τ τ' : Nat → Nat → Nat → Int32} (a : Ap τ τ') : Ap (give P τ) (give P τ') := by
  unfold give
  rw [qAt_ap a, wN_ap a]
  exact gRun_ap a
theorem gStep_o {τ : Nat → Nat → Nat → Int32} {p q : Nat} (h : q ≠ p) : gStep τ p 4 q = τ 4 q := by
  unfold gStep
  cases fnd (cCan τ p) 160 0 with
  | none => rfl
  | some i =>
    show tI (tI τ 2 0 i (nI p)) 4 p 0 2 4 q = τ 4 q
    rw [tI_j h, tI_t (by decide)]
theorem gStep_t {τ : Nat → Nat → Nat → Int32} {p t : Nat} (h2 : t ≠ 2) (h4 : t ≠ 4) : gStep τ p t = τ t := by
  unfold gStep
  cases fnd (cCan τ p) 160 0 with
  | none => rfl
  | some i =>
    show tI (tI τ 2 0 i (nI p)) 4 p 0 2 t = τ t
    rw [tI_t h4, tI_t h2]
theorem gStep_Iv {K E P : Nat} {τ : Nat → Nat → Nat → Int32} {p : Nat} (h : Iv K E P τ) (hp : p < P) (hw : τ 4 p 0 = 1) : Iv K E P (gStep τ p) := by
  unfold gStep
  cases e : fnd (cCan τ p) 160 0 with
  | none => exact h
  | some i =>
    obtain ⟨_, hi, hc, _⟩ := fnd_some e
    have hfree : τ 2 0 i = -1 := by
      unfold cCan at hc
      rw [Bool.and_eq_true, decide_eq_true_eq] at hc
      exact hc.1
    have hP := h.P12
    have hiE : i % 4 < E := h.ceE (by omega) (by rw [hfree]; decide)
    obtain ⟨h1, h2, h3, h4, h5, h6, h7, h8, h9, h10, h11, h12, h13⟩ := h
    show Iv K E P (tI (tI τ 2 0 i (nI p)) 4 p 0 2)
    have t0 : tI (tI τ 2 0 i (nI p)) 4 p 0 2 0 = τ 0 := by rw [tI_t (by decide), tI_t (by decide)]
    have t5 : tI (tI τ 2 0 i (nI p)) 4 p 0 2 5 = τ 5 := by rw [tI_t (by decide), tI_t (by decide)]
    have t6 : tI (tI τ 2 0 i (nI p)) 4 p 0 2 6 = τ 6 := by rw [tI_t (by decide), tI_t (by decide)]
    have t4k : ∀ q k, k ≠ 0 → tI (tI τ 2 0 i (nI p)) 4 p 0 2 4 q k = τ 4 q k := fun q k hk => by
      rw [tI_g, if_neg (fun z => hk z.2.2), tI_t (by decide)]
    have t4q : ∀ q, q ≠ p → tI (tI τ 2 0 i (nI p)) 4 p 0 2 4 q = τ 4 q := fun q hq => by rw [tI_j hq, tI_t (by decide)]
    have t4p : tI (tI τ 2 0 i (nI p)) 4 p 0 2 4 p 0 = 2 := tI_s
    have t2i : tI (tI τ 2 0 i (nI p)) 4 p 0 2 2 0 i = nI p := by rw [tI_t (by decide), tI_s]
    have t2j : ∀ j, j ≠ i → tI (tI τ 2 0 i (nI p)) 4 p 0 2 2 0 j = τ 2 0 j := fun j hj => by rw [tI_t (by decide), tI_k hj]
    generalize tI (tI τ 2 0 i (nI p)) 4 p 0 2 = σ at *
    have hno : ∀ j, j < 160 → ¬ τ 2 0 j = nI p := h11 p hp (by rw [hw]; decide)
    have w1 : ∀ q, q < P → σ 4 q 0 = 1 → q ≠ p ∧ τ 4 q 0 = 1 := fun q hq z => by
      by_cases e : q = p
      · subst e; rw [t4p] at z; exact absurd z (by decide)
      · rw [t4q q e] at z; exact ⟨e, z⟩
    refine ⟨by rw [t0]; exact h1, by rw [t0]; exact h2, by rw [t0]; exact h3, ?_, ?_, ?_, ?_, ?_, ?_, ?_, ?_, ?_, ?_⟩
    · obtain ⟨B, hB, hK, hb⟩ := h4
      refine ⟨B, by rw [t0]; exact hB, hK, fun q hq z => ?_⟩
      rw [t4k q 6 (by decide)]
      exact hb q hq (w1 q hq z).2
    · intro q hq
      rw [t4k q 5 (by decide)]
      exact h5 q hq
    · intro q hq
      by_cases e : q = p
      · subst e; exact ⟨2, by rw [t4p]; rfl, by decide⟩
      · rw [t4q q e]; exact h6 q hq
    · intro a ha b hb wa wb e
      unfold wt at wa wb
      rw [decide_eq_true_eq] at wa wb
      rw [t4k a 6 (by decide), t4k b 6 (by decide)] at e
      exact h7 a ha b hb (by unfold wt; rw [decide_eq_true_eq]; exact (w1 a ha wa).2) (by unfold wt; rw [decide_eq_true_eq]; exact (w1 b hb wb).2) e
    · intro j hj hjE
      by_cases e : j = i
      · subst e; rw [t2i]; exact Or.inr (Or.inr ⟨p, hp, rfl⟩)
      · rw [t2j j e]; exact h8 j hj hjE
    · intro j hj hjE
      rw [t2j j (fun z => by subst z; omega)]
      exact h9 j hj hjE
    · intro q hq a ha b hb ea eb
      by_cases hqp : q = p
      · subst hqp
        have z : ∀ j, j < 160 → σ 2 0 j = nI q → j = i := fun j hj hz => by
          by_cases y : j = i
          · exact y
          · rw [t2j j y] at hz; exact absurd hz (hno j hj)
        rw [z a ha ea, z b hb eb]
      · have z : ∀ j, σ 2 0 j = nI q → j ≠ i := fun j hz y => by
          subst y
          rw [t2i] at hz
          exact hqp (nI_i (by omega) (by omega) hz).symm
        rw [t2j a (z a ea)] at ea
        rw [t2j b (z b eb)] at eb
        exact h10 q hq a ha b hb ea eb
    · intro q hq hs j hj
      by_cases hqp : q = p
      · subst hqp; exact absurd t4p hs
      · by_cases y : j = i
        · subst y
          rw [t2i]
          exact fun z => hqp (nI_i (by omega) (by omega) z).symm
        · rw [t4q q hqp] at hs
          rw [t2j j y]
          exact h11 q hq hs j hj
    · intro q hq hq2
      rw [t4q q (by omega)]
      exact h12 q hq hq2
    · rw [t5, t6]; exact h13
/-- those whom the order from k to w tells wait, each once -/
def Gd (P w : Nat) (q : Nat → Nat) (k : Nat) (τ : Nat → Nat → Nat → Int32) : Prop := (∀ j, k ≤ j → j < w → q j < P ∧ τ 4 (q j) 0 = 1) ∧ ∀ i, i < w → ∀ j, j < w → q i = q j → i = j
theorem Gd_next {P w : Nat} {q : Nat → Nat} {k : Nat} {τ : Nat → Nat → Nat → Int32} (hk : k < w) (h : Gd P w q k τ) : Gd P w q (k + 1) (gStep τ (q k)) := by
  refine ⟨fun j hj hw => ?_, h.2⟩
  rw [gStep_o (fun e => absurd (h.2 j hw k hk e) (by omega))]
  exact h.1 j (by omega) hw
theorem gRun_Iv {K E P w : Nat} {q : Nat → Nat} : ∀ {n k : Nat} {τ : Nat → Nat → Nat → Int32}, k + n = w → Gd P w q k τ → Iv K E P τ → Iv K E P (gRun q n k τ)
  | 0, _, _, _, _, h => h
  | n + 1, k, τ, hw, hg, h => gRun_Iv (n := n) (k := k + 1) (by omega) (Gd_next (by omega) hg) (gStep_Iv h (hg.1 k (by omega) (by omega)).1 (hg.1 k (by omega) (by omega)).2)
theorem Gd_0 {P : Nat} {τ : Nat → Nat → Nat → Int32} (hd : Dw P τ) : Gd P (wN P τ) (qAt P τ) 0 τ := by
  refine ⟨fun j _ hj => ?_, fun i hi j hj e => ?_⟩
  · obtain ⟨a, b, _⟩ := ord2 hd hj
    exact ⟨a, by simpa [wt] using b⟩
  · obtain ⟨_, _, a⟩ := ord2 hd hi
    obtain ⟨_, _, b⟩ := ord2 hd hj
    rw [← a, ← b, e]
theorem give_Iv {K E P : Nat} {τ : Nat → Nat → Nat → Int32} (h : Iv K E P τ) : Iv K E P (give P τ) := gRun_Iv (by omega) (Gd_0 h.dw) h
section O2
variable {g : GG} {d : Nat} {c n : Nat} {m : PM} {Q : Ou → PM → Nat → Nat → Prop} {r : Nat}
theorem co_fill {x : Int32} (h : ∀ τ', Ap τ' (m.1 r) → (∀ k, k < 12 → τ' 3 0 k = x) → Q (.inl none) (rset m r τ') c n) : Wq g d MJ7_fill_53178 c n 0 [some (pO 3 r 0), some (pI x)] [] m Q := by
  refine sgJ7_fill_53178 ?_
  have := Wq.up (g := g) (d := d) (M := MJ7_fill_53178) (c := c) (n := n) (pc := 5) (Q := Q) (S := Nat → Nat → Nat → Int32) 12 (fun k _ => [some (pO 3 r 0), some (pI x), some (pI (nI k)), some (pI 12)]) (fun _ τ => rset m r τ) (fun k τ => Ap τ (m.1 r) ∧ ∀ j, j < k → τ 3 0 j = x) (fun τ hI => ?_) (fun k τ hk hI ih => ?_) 0 (m.1 r) (by omega) ⟨Ap_rfl, fun j hj => by omega⟩
  · rw [rset_id] at this
    exact this
  · exact sgJ7_fill_53178_5 ⟨fun _ => h τ hI.1 hI.2, fun q => absurd (geL (Nat.le_refl 12) (by decide)) q⟩
  · refine sgJ7_fill_53178_5 ⟨fun q => absurd q (ngeL hk (by decide)), fun _ => ⟨vp_in_nI hk (by decide), ?_⟩⟩
    simp (disch := omega) only [ixn, nI_1, nI_add, pk_mul, nI_p0, of0, of1, of2, of3, of4, of5, of6, of7, of8, dv16, dv4, rm4, at_n, pl_n, ce_n, oe_n, oe0, oe1, oe2, ix_0, ix_1, ix_2, ix_3, ix_4, ix_5, ix_6, ix_7, ix_8, setI_eq, rset_rset, rset_s, rset_2, tI_s, tI_t, tI_j, tI_k]
    refine ih _ ⟨Ap_trans (Ap_tI3 _ _ _) hI.1, fun j hj => ?_⟩
    by_cases e : j = k
    · subst e; rw [tI_s]
    · rw [tI_k e]; exact hI.2 j (by omega)
theorem co_giveSlotsOut {K E P : Nat} (hI : Iv K E P (m.1 r)) (h : ∀ τ', Ap τ' (give P (m.1 r)) → Q (.inl none) (rset m r τ') c n) : Wq g (d + 2) MX1_giveSlotsOut c n 0 [some (pO 0 r 0)] [] m Q := by
  have hP12 := hI.P12
  refine sgX1_giveSlotsOut (co_fill fun τ1 a1 hf => ⟨rfl, rfl, ?_⟩)
  show Wq g (d + 2) MX1_giveSlotsOut c n 10 [some (pO 0 r 0), some (pI 0), none, none] [] (rset m r τ1) Q
  have hd := hI.dw
  have hw12 : wN P (m.1 r) ≤ 12 := Nat.le_trans (cN_le _ _) hP12
  -- the queue as it is filled
  refine Wq.up (S := Nat → Nat → Nat → Int32) P (fun k _ => [some (pO 0 r 0), some (pI (nI k)), none, none]) (fun _ τ => rset m r τ) (fun k τ => Ap τ (m.1 r) ∧ (∀ p, p < k → wt (m.1 r) p = true → τ 3 0 (cPlace (m.1 r) P p) = nI p) ∧ ∀ j, j < 12 → τ 3 0 j = -1 ∨ ∃ p, p < k ∧ wt (m.1 r) p = true ∧ cPlace (m.1 r) P p = j) (fun τ hL => ?_) (fun k τ hk hL ih => ?_) 0 τ1 (by omega) ⟨a1, fun p hp => by omega, fun j hj => Or.inl (hf j hj)⟩
  · obtain ⟨a, q1, q2⟩ := hL
    refine sgX1_giveSlotsOut_10 ⟨fun _ => ?_, fun q => absurd (by rw [rset_s, a 0 (by decide), hI.hP]; exact geL (Nat.le_refl P) (by omega)) q⟩
    have hq1 : ∀ j, j < wN P (m.1 r) → τ 3 0 j = nI (qAt P (m.1 r) j) := fun j hj => by
      obtain ⟨b1, b2, b3⟩ := ord2 hd hj
      have := q1 _ b1 b2
      rw [b3] at this
      exact this
    have hq2 : ∀ j, wN P (m.1 r) ≤ j → j < 12 → τ 3 0 j = -1 := fun j hj hj2 => by
      rcases q2 j hj2 with z | ⟨p, hp, hw, he⟩
      · exact z
      · have := ord1 (P := P) hp hw
        omega
    -- the order
    have G0 : Gd P (wN P (m.1 r)) (qAt P (m.1 r)) 0 τ := by
      have := Gd_0 hd
      unfold Gd at this ⊢
      rw [a 4 (by decide)]
      exact this
    have I0 : Iv K E P τ := Iv_ap a hI
    have F0 : ∀ τ', Ap τ' (gRun (qAt P (m.1 r)) (wN P (m.1 r) - 0) 0 τ) → Q (.inl none) (rset m r τ') c n := fun τ' a' => h τ' (Ap_trans a' (gRun_ap a))
    clear hf a1
    generalize hqe : qAt P (m.1 r) = q at *
    generalize hwe : wN P (m.1 r) = w at *
    refine Wq.up (S := Nat → Nat → Nat → Int32) 12 (fun k _ => [some (pO 0 r 0), some (pI (nI k)), none, none]) (fun _ τ => rset m r τ) (fun k τ => Iv K E P τ ∧ Gd P w q k τ ∧ (∀ j, j < w → τ 3 0 j = nI (q j)) ∧ (∀ j, w ≤ j → j < 12 → τ 3 0 j = -1) ∧ ∀ τ', Ap τ' (gRun q (w - k) k τ) → Q (.inl none) (rset m r τ') c n) (fun τ hL => ?_) (fun k τ hk hL ih => ?_) 0 τ (by omega) ⟨I0, G0, hq1, hq2, F0⟩
    · refine sgX1_giveSlotsOut_52 ⟨fun _ => hL.2.2.2.2 τ ?_, fun q => absurd (geL (Nat.le_refl 12) (by decide)) q⟩
      rw [show w - 12 = 0 by omega]
      exact Ap_rfl
    · obtain ⟨hI1, hG, e1, e2, e3⟩ := hL
      refine sgX1_giveSlotsOut_52 ⟨fun q => absurd q (ngeL hk (by decide)), fun _ => ⟨vp_in_nI hk (by decide), ?_⟩⟩
      simp (disch := omega) only [ixn, nI_1, nI_add, pk_mul, nI_p0, of0, of1, of2, of3, of4, of5, of6, of7, of8, dv16, dv4, rm4, at_n, pl_n, ce_n, oe_n, oe0, oe1, oe2, ix_0, ix_1, ix_2, ix_3, ix_4, ix_5, ix_6, ix_7, ix_8, setI_eq, rset_rset, rset_s, rset_2, tI_s, tI_t, tI_j, tI_k]
      by_cases hkw : k < w
      · obtain ⟨hqP, hqs⟩ := hG.1 k (Nat.le_refl k) hkw
        have ee := e1 k hkw
        have hx : ((¬ τ 3 0 k < 0) ∧ (¬ τ 0 0 2 ≤ τ 3 0 k)) := by
          rw [ee, hI1.hP]
          exact ⟨nI_pos (by omega), nI_ge hqP (by omega)⟩
        refine ⟨fun z => absurd hx z, fun _ => ⟨vp_in_nI hk (by decide), ?_⟩⟩
        rw [ee]
        have hst : ∀ τ'', gStep τ (q k) = τ'' → Wq g (d + 2) MX1_giveSlotsOut c n 52 [some (pO 0 r 0), some (pI (nI (k + 1))), none, none] [] (rset m r τ'') Q := fun τ'' he => by
          subst he
          refine ih _ ⟨gStep_Iv hI1 hqP hqs, Gd_next hkw hG, ?_, ?_, ?_⟩
          · rw [gStep_t (by decide) (by decide)]; exact e1
          · rw [gStep_t (by decide) (by decide)]; exact e2
          · rw [show w - k = (w - (k + 1)) + 1 by omega, gRun] at e3
            exact e3
        refine co_earliestCell (by omega) ⟨rfl, rfl, ?_⟩
        rw [rset_s]
        unfold gStep at hst
        cases e : fnd (cCan τ (q k)) 160 0 with
        | none =>
          rw [e] at hst
          exact ⟨fun _ => hst τ rfl, fun z => absurd rfl z⟩
        | some i =>
          rw [e] at hst
          obtain ⟨_, hi, _, _⟩ := fnd_some e
          refine ⟨fun z => absurd z (nI_m1 (by omega)), fun _ => ⟨vp_in_nI (show i < 160 by omega) (by decide), ?_⟩⟩
          refine ⟨vp_in_nI (by omega) (by decide), ?_⟩
          simp (disch := omega) only [ixn, nI_1, nI_add, pk_mul, nI_p0, of0, of1, of2, of3, of4, of5, of6, of7, of8, dv16, dv4, rm4, at_n, pl_n, ce_n, oe_n, oe0, oe1, oe2, ix_0, ix_1, ix_2, ix_3, ix_4, ix_5, ix_6, ix_7, ix_8, setI_eq, rset_rset, rset_s, rset_2, tI_s, tI_t, tI_j, tI_k, oI]
          exact hst _ rfl
      · have ee := e2 k (by omega) hk
        have hx : ¬ ((¬ τ 3 0 k < 0) ∧ (¬ τ 0 0 2 ≤ τ 3 0 k)) := by
          rw [ee]
          exact fun z => z.1 (by decide)
        refine ⟨fun _ => e3 τ ?_, fun z => absurd z hx⟩
        rw [show w - k = 0 by omega]
        exact Ap_rfl
  · obtain ⟨a, q1, q2⟩ := hL
    refine sgX1_giveSlotsOut_10 ⟨fun q => absurd (by rw [rset_s, a 0 (by decide), hI.hP] at q; exact q) (ngeL hk (by omega)), fun _ => ?_⟩
    refine co_placeInQueue (P := P) (by rw [rset_s, a 0 (by decide)]; exact hI.hP) hP12 (by omega) ⟨rfl, rfl, ?_⟩
    rw [rset_s, cPlace_ap a, a 4 (by decide)]
    by_cases hs : (m.1 r) 4 k 0 = 1
    · have hwk : wt (m.1 r) k = true := by simpa [wt] using hs
      have hpl := ord1 hk hwk
      rw [if_pos hs]
      refine ⟨fun z => absurd z (nI_pos (by omega)), fun _ => ⟨fun z => absurd z (ngeL (N := 12) (by omega) (by decide)), fun _ => ⟨vp_in_nI (by omega) (by decide), ?_⟩⟩⟩
      simp (disch := omega) only [ixn, nI_1, nI_add, pk_mul, nI_p0, of0, of1, of2, of3, of4, of5, of6, of7, of8, dv16, dv4, rm4, at_n, pl_n, ce_n, oe_n, oe0, oe1, oe2, ix_0, ix_1, ix_2, ix_3, ix_4, ix_5, ix_6, ix_7, ix_8, setI_eq, rset_rset, rset_s, rset_2, tI_s, tI_t, tI_j, tI_k]
      refine ih _ ⟨Ap_trans (Ap_tI3 _ _ _) a, fun p hp hw => ?_, fun j hj => ?_⟩
      · by_cases e : p = k
        · subst e; rw [tI_s]
        · rw [tI_k (fun z => e (ord3 hd (by omega) hk hw hwk z))]
          exact q1 p (by omega) hw
      · by_cases e : j = cPlace (m.1 r) P k
        · exact Or.inr ⟨k, by omega, hwk, e.symm⟩
        · rw [tI_k e]
          rcases q2 j hj with z | ⟨p, hp, hz⟩
          · exact Or.inl z
          · exact Or.inr ⟨p, by omega, hz⟩
    · have hwk : ¬ wt (m.1 r) k = true := by simpa [wt] using hs
      rw [if_neg hs]
      refine ⟨fun _ => ?_, fun z => absurd (by decide) z⟩
      rw [nI_1]
      refine ih _ ⟨a, fun p hp hw => ?_, fun j hj => ?_⟩
      · exact q1 p (by rcases Nat.lt_succ_iff_lt_or_eq.mp hp with z | z; exact z; subst z; exact absurd hw hwk) hw
      · rcases q2 j hj with z | ⟨p, hp, hz⟩
        · exact Or.inl z
        · exact Or.inr ⟨p, by omega, hz⟩
end O2
