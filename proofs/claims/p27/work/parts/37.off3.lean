/-! THE OFFICE: a day goes by; a copy -/
theorem inC_succ {τ : Nat → Nat → Nat → Int32} {k p : Nat} : inC τ (k + 1) p = true ↔ inC τ k p = true ∨ τ 2 0 k = nI p := by
  rw [inC_iff, inC_iff]
  constructor
  · rintro ⟨i, hi, h⟩
    rcases Nat.lt_succ_iff_lt_or_eq.mp hi with z | z
    · exact Or.inl ⟨i, z, h⟩
    · subst z; exact Or.inr h
  · rintro (⟨i, hi, h⟩ | h)
    · exact ⟨i, by omega, h⟩
    · exact ⟨k, by omega, h⟩
theorem inC_0 {τ : Nat → Nat → Nat → Int32} {p : Nat} : ¬ inC τ 0 p = true := by
  rw [inC_iff]
  rintro ⟨i, hi, _⟩
  omega
theorem ix_16 : ix (16 : Int32) = 16 := by decide
theorem ix_144 : ix ((160 : Int32) - 16) = 144 := by decide
section O4
variable {g : GG} {d : Nat} {c n : Nat} {m : PM} {Q : Ou → PM → Nat → Nat → Prop} {r : Nat} {K E P : Nat}
theorem co_goOn (hI : Iv K E P (m.1 r)) (hd : ∃ D, m.1 r 0 0 0 = nI D ∧ D < 9999) (h : ∀ τ', Ap τ' (give P (fGo0 E P (m.1 r))) → Q (.inl (some (pI (nI (cAway P (m.1 r)))))) (rset m r τ') c n) : Wq g (d + 3) MX1_goOn c n 0 [some (pO 0 r 0)] [] m Q := by
  have hE := hI.E4
  have hP := hI.P12
  refine sgX1_goOn ?_
  have key := Wq.up (g := g) (d := d + 3) (M := MX1_goOn) (c := c) (n := n) (pc := 4) (Q := Q) (S := Nat → Nat → Nat → Int32) 16 (fun k _ => [some (pO 0 r 0), some (pI (nI (cN (fun i => isPu P (m.1 r 2 0 i)) k))), some (pI (nI k))]) (fun _ τ => rset m r τ) (fun k τ => (∀ t, t ≠ 4 → τ t = m.1 r t) ∧ ∀ p j, τ 4 p j = if j = 0 ∧ p < P ∧ inC (m.1 r) k p = true then 0 else m.1 r 4 p j) (fun τ hL => ?_) (fun k τ hk hL ih => ?_) 0 (m.1 r) (by omega) ⟨fun _ _ => rfl, fun p j => by rw [if_neg (fun z => inC_0 z.2.2)]⟩
  · rw [rset_id] at key
    exact key
  · obtain ⟨l1, l2⟩ := hL
    refine sgX1_goOn_4 ⟨fun _ => ?_, fun q => absurd (geL (Nat.le_refl 16) (by decide)) q⟩
    simp (disch := omega) only [ixn, nI_1, nI_add, pk_mul, nI_p0, of0, of1, of2, of3, of4, of5, of6, of7, of8, dv16, dv4, rm4, at_n, pl_n, ce_n, oe_n, oe0, oe1, oe2, ix_0, ix_1, ix_2, ix_3, ix_4, ix_5, ix_6, ix_7, ix_8, setI_eq, rset_rset, rset_s, rset_2, tI_s, tI_t, tI_j, tI_k, setR_eq, ts_s, ts_t, ix_16, ix_144]
    rw [l1 0 (by decide), l1 2 (by decide)]
    have e0 : tset (tI (tI τ 0 0 4 (m.1 r 0 0 4 + nI (cN (fun i => isPu P (m.1 r 2 0 i)) 16))) 0 0 0 (m.1 r 0 0 0 + 1)) 2 0 (va_cpy (m.1 r 2 0) (m.1 r 2 0) 16 0 144) = fGo0 0 P (m.1 r) := by
      funext t j z
      by_cases e2 : t = 2
      · subst e2
        by_cases ej : j = 0
        · subst ej
          rw [ts_s]
          by_cases hz : z < 144
          · rw [pk_cpy_in (by omega) (by omega)]
            simp [fGo0, hz, Nat.add_comm]
          · rw [pk_cpy_out (by omega)]
            simp [fGo0, hz]
        · rw [ts_j ej, tI_t (by decide), tI_t (by decide), l1 2 (by decide)]
          simp [fGo0, ej]
      · rw [ts_t e2]
        by_cases e4 : t = 4
        · subst e4
          rw [tI_t (by decide), tI_t (by decide), l2]
          by_cases y : z = 0 ∧ j < P ∧ inC (m.1 r) 16 j = true
          · rw [if_pos y]
            simp [fGo0, y]
          · rw [if_neg y]
            simp [fGo0, y]
        · rw [tI_g, tI_g, l1 t e4]
          by_cases e0 : t = 0 ∧ j = 0
          · obtain ⟨rfl, rfl⟩ := e0
            by_cases z0 : z = 0
            · subst z0; simp [fGo0]
            · by_cases z4 : z = 4
              · subst z4; simp [fGo0, cAway]
              · simp [fGo0, z0, z4]
          · rw [if_neg (fun y => e0 ⟨y.1, y.2.1⟩), if_neg (fun y => e0 ⟨y.1, y.2.1⟩)]
            rw [fGo0, if_neg (fun y => e0 ⟨y.1, y.2.1⟩), if_neg (fun y => e0 ⟨y.1, y.2.1⟩), if_neg (fun y => e2 y.1), if_neg (fun y => e4 y.1)]
    rw [e0]
    refine Wq.up (S := Unit) E (fun k _ => [some (pO 0 r 0), some (pI (nI (cAway P (m.1 r)))), some (pI (nI k))]) (fun k _ => rset m r (fGo0 k P (m.1 r))) (fun _ _ => True) (fun _ _ => ?_) (fun k _ hk _ ih => ?_) 0 () (by omega) trivial
    · refine sgX1_goOn_91 ⟨fun _ => ?_, fun q => absurd ?_ q⟩
      · refine co_giveSlotsOut (K := K) (E := E) (P := P) (by rw [rset_s]; exact fGo0_Iv hI hd) fun τ' a => ⟨rfl, rfl, ?_⟩
        rw [rset_rset]
        rw [rset_s] at a
        exact h τ' a
      · rw [rset_s]
        have : fGo0 E P (m.1 r) 0 0 1 = m.1 r 0 0 1 := by simp [fGo0]
        rw [this, hI.hE]
        exact geL (Nat.le_refl E) (by omega)
    · refine sgX1_goOn_91 ⟨fun q => absurd q ?_, fun _ => ?_⟩
      · rw [rset_s]
        have : fGo0 k P (m.1 r) 0 0 1 = m.1 r 0 0 1 := by simp [fGo0]
        rw [this, hI.hE]
        exact ngeL hk (by omega)
      · rw [show (9 : Int32) = nI 9 from rfl]
        refine co_freeSlotsOf (by omega) (by decide) ⟨rfl, rfl, ?_⟩
        rw [nI_1, rset_s, rset_rset]
        have e1 : tset (fGo0 k P (m.1 r)) 2 0 (fun z => if z / 16 = 9 ∧ z % 4 = k then -1 else fGo0 k P (m.1 r) 2 0 z) = fGo0 (k + 1) P (m.1 r) := by
          funext t j z
          by_cases e2 : t = 2 ∧ j = 0
          · obtain ⟨rfl, rfl⟩ := e2
            rw [ts_s]
            by_cases y : z / 16 = 9 ∧ z % 4 = k
            · rw [if_pos y]
              have y1 : ¬ z < 144 := by omega
              have y2 : z < 160 ∧ z % 4 < k + 1 := by omega
              simp [fGo0, y1, y2]
            · rw [if_neg y]
              by_cases y1 : z < 144
              · simp [fGo0, y1]
              · by_cases y2 : z < 160 ∧ z % 4 < k
                · have y3 : z < 160 ∧ z % 4 < k + 1 := by omega
                  simp [fGo0, y1, y2, y3]
                · have y3 : ¬ (z < 160 ∧ z % 4 < k + 1) := by omega
                  simp only [fGo0, y1, y2, y3]
          · have e3 : tset (fGo0 k P (m.1 r)) 2 0 (fun z => if z / 16 = 9 ∧ z % 4 = k then -1 else fGo0 k P (m.1 r) 2 0 z) t j z = fGo0 k P (m.1 r) t j z := by
              by_cases e1 : t = 2
              · subst e1; rw [ts_j (by omega)]
              · rw [ts_t e1]
            rw [e3]
            simp only [fGo0, e2]
            simp
        rw [e1]
        exact ih () trivial
  · obtain ⟨l1, l2⟩ := hL
    have hb : k < 160 := by omega
    have hpu := isPu_iff hI hb
    have hc := Ce_pu hI.P12 (hI.ce hb)
    refine sgX1_goOn_4 ⟨fun q => absurd q (ngeL hk (by decide)), fun _ => ⟨vp_in_nI hb (by decide), ?_⟩⟩
    simp (disch := omega) only [ixn, nI_1, nI_add, pk_mul, nI_p0, of0, of1, of2, of3, of4, of5, of6, of7, of8, dv16, dv4, rm4, at_n, pl_n, ce_n, oe_n, oe0, oe1, oe2, ix_0, ix_1, ix_2, ix_3, ix_4, ix_5, ix_6, ix_7, ix_8, setI_eq, rset_rset, rset_s, rset_2, tI_s, tI_t, tI_j, tI_k]
    rw [l1 2 (by decide), l1 0 (by decide), hI.hP]
    by_cases z : isPu P (m.1 r 2 0 k) = true
    · obtain ⟨p, hp, ep⟩ := hpu.mp z
      refine ⟨fun q => absurd (hc.mpr ⟨p, hp, ep⟩) q, fun _ => ?_⟩
      rw [ep]
      refine ⟨vp_in_nI hb (by decide), vp_in_nI (by omega) (by decide), ?_⟩
      have := ih (tI τ 4 p 0 0) ⟨fun t ht => by rw [tI_t ht, l1 t ht], fun p' j => ?_⟩
      · rw [cN, if_pos z] at this
        rw [ixn (by omega)]
        exact this
      · rw [tI_g]
        by_cases y : p' = p ∧ j = 0
        · obtain ⟨rfl, rfl⟩ := y
          rw [if_pos ⟨rfl, rfl, rfl⟩, if_pos ⟨rfl, hp, inC_succ.mpr (Or.inr ep)⟩]
        · rw [if_neg (fun x => y ⟨x.2.1, x.2.2⟩), l2]
          by_cases w : j = 0 ∧ p' < P ∧ inC (m.1 r) k p' = true
          · rw [if_pos w, if_pos ⟨w.1, w.2.1, inC_succ.mpr (Or.inl w.2.2)⟩]
          · rw [if_neg w, if_neg (fun x => ?_)]
            rcases inC_succ.mp x.2.2 with v | v
            · exact w ⟨x.1, x.2.1, v⟩
            · rw [ep] at v
              exact y ⟨(nI_i (by omega) (by omega) v).symm, x.1⟩
    · refine ⟨fun _ => ?_, fun q => absurd (hpu.mpr (hc.mp q)) z⟩
      have := ih τ ⟨l1, fun p' j => ?_⟩
      · rw [cN, if_neg z] at this
        exact this
      · rw [l2]
        by_cases w : j = 0 ∧ p' < P ∧ inC (m.1 r) k p' = true
        · rw [if_pos w, if_pos ⟨w.1, w.2.1, inC_succ.mpr (Or.inl w.2.2)⟩]
        · rw [if_neg w, if_neg (fun x => ?_)]
          rcases inC_succ.mp x.2.2 with v | v
          · exact w ⟨x.1, x.2.1, v⟩
          · exact z (hpu.mpr ⟨p', x.2.1, v⟩)
theorem co_copyFrom {r1 : Nat} (hne : r1 ≠ r) (h : ∀ τ', Cp τ' (m.1 r1) → Q (.inl none) (rset m r τ') c n) : Wq g (d + 2) MX1_copyFrom c n 0 [some (pO 0 r 0), some (pO 0 r1 0)] [] m Q := by
  refine sgX1_copyFrom ?_
  simp (disch := omega) only [ixn, nI_1, nI_add, pk_mul, nI_p0, of0, of1, of2, of3, of4, of5, of6, of7, of8, dv16, dv4, rm4, at_n, pl_n, ce_n, oe_n, oe0, oe1, oe2, ix_0, ix_1, ix_2, ix_3, ix_4, ix_5, ix_6, ix_7, ix_8, setI_eq, rset_rset, rset_s, rset_2, tI_s, tI_t, tI_j, tI_k, setR_eq, ts_s, ts_t, rset_n hne]
  generalize hρ : m.1 r1 = ρ at *
  refine Wq.up (S := Nat → Nat → Nat → Int32) 12 (fun k _ => [some (pO 0 r 0), some (pO 0 r1 0), some (pI (nI k))]) (fun _ τ => rset m r τ) (fun x τ => (∀ k, k < 5 → τ 0 0 k = ρ 0 0 k) ∧ (∀ k, k < 4 → τ 1 0 k = ρ 1 0 k) ∧ (∀ i, i < 160 → τ 2 0 i = ρ 2 0 i) ∧ ∀ p, p < x → ∀ k, k < 9 → τ 4 p k = ρ 4 p k) (fun τ hL => ?_) (fun x τ hx hL ih => ?_) 0 _ (by omega) ?_
  · obtain ⟨l0, l1, l2, l4⟩ := hL
    refine sgX1_copyFrom_78 ⟨fun _ => ?_, fun q => absurd (geL (Nat.le_refl 12) (by decide)) q⟩
    refine Wq.up (S := Nat → Nat → Nat → Int32) 4 (fun k _ => [some (pO 0 r 0), some (pO 0 r1 0), some (pI (nI k))]) (fun _ τ => rset m r τ) (fun x τ => (∀ k, k < 5 → τ 0 0 k = ρ 0 0 k) ∧ (∀ k, k < 4 → τ 1 0 k = ρ 1 0 k) ∧ (∀ i, i < 160 → τ 2 0 i = ρ 2 0 i) ∧ (∀ p, p < 12 → ∀ k, k < 9 → τ 4 p k = ρ 4 p k) ∧ ∀ e, e < x → τ 5 e 1 = ρ 5 e 1 ∧ τ 5 e 2 = ρ 5 e 2 ∧ ∀ k, k < 4 → τ 6 e k = ρ 6 e k) (fun τ hL => ?_) (fun x τ hx hL ih => ?_) 0 τ (by omega) ⟨l0, l1, l2, l4, fun e he => by omega⟩
    · exact sgX1_copyFrom_110 ⟨fun _ => h τ hL, fun q => absurd (geL (Nat.le_refl 4) (by decide)) q⟩
    · obtain ⟨l0, l1, l2, l4, l5⟩ := hL
      refine sgX1_copyFrom_110 ⟨fun q => absurd q (ngeL hx (by decide)), fun _ => ⟨vp_in_nI hx (by decide), vp_in_nI hx (by decide), ?_⟩⟩
      simp (disch := omega) only [ixn, nI_1, nI_add, pk_mul, nI_p0, of0, of1, of2, of3, of4, of5, of6, of7, of8, dv16, dv4, rm4, at_n, pl_n, ce_n, oe_n, oe0, oe1, oe2, ix_0, ix_1, ix_2, ix_3, ix_4, ix_5, ix_6, ix_7, ix_8, setI_eq, rset_rset, rset_s, rset_2, tI_s, tI_t, tI_j, tI_k, setR_eq, ts_s, ts_t, rset_n hne, hρ]
      refine ih _ ⟨?_, ?_, ?_, ?_, fun e he => ?_⟩
      · simp (disch := omega) only [setI_eq, rset_rset, rset_s, rset_2, tI_s, tI_t, tI_j, tI_k, ts_t]; exact l0
      · simp (disch := omega) only [setI_eq, rset_rset, rset_s, rset_2, tI_s, tI_t, tI_j, tI_k, ts_t]; exact l1
      · simp (disch := omega) only [setI_eq, rset_rset, rset_s, rset_2, tI_s, tI_t, tI_j, tI_k, ts_t]; exact l2
      · simp (disch := omega) only [setI_eq, rset_rset, rset_s, rset_2, tI_s, tI_t, tI_j, tI_k, ts_t]; exact l4
      · by_cases e0 : e = x
        · subst e0
          simp (disch := omega) only [setI_eq, rset_rset, rset_s, rset_2, tI_s, tI_t, tI_j, tI_k, ts_t, ts_s]
          refine ⟨trivial, trivial, fun k hk => ?_⟩
          rw [pk_cpy_in (by omega) (by omega)]
          simp
        · obtain ⟨a, b, v⟩ := l5 e (by omega)
          simp (disch := omega) only [setI_eq, rset_rset, rset_s, rset_2, tI_s, tI_t, tI_j, tI_k, ts_t, ts_j]
          exact ⟨a, b, v⟩
  · obtain ⟨l0, l1, l2, l4⟩ := hL
    refine sgX1_copyFrom_78 ⟨fun q => absurd q (ngeL hx (by decide)), fun _ => ⟨vp_in_nI hx (by decide), vp_in_nI hx (by decide), ?_⟩⟩
    simp (disch := omega) only [ixn, nI_1, nI_add, pk_mul, nI_p0, of0, of1, of2, of3, of4, of5, of6, of7, of8, dv16, dv4, rm4, at_n, pl_n, ce_n, oe_n, oe0, oe1, oe2, ix_0, ix_1, ix_2, ix_3, ix_4, ix_5, ix_6, ix_7, ix_8, setI_eq, rset_rset, rset_s, rset_2, tI_s, tI_t, tI_j, tI_k, rset_n hne, hρ]
    refine ih _ ⟨?_, ?_, ?_, fun p hp k hk => ?_⟩
    · simp (disch := omega) only [setI_eq, rset_rset, rset_s, rset_2, tI_s, tI_t, tI_j, tI_k]; exact l0
    · simp (disch := omega) only [setI_eq, rset_rset, rset_s, rset_2, tI_s, tI_t, tI_j, tI_k]; exact l1
    · simp (disch := omega) only [setI_eq, rset_rset, rset_s, rset_2, tI_s, tI_t, tI_j, tI_k]; exact l2
    · by_cases e0 : p = x
      · subst e0
        have hk9 : k = 0 ∨ k = 1 ∨ k = 2 ∨ k = 3 ∨ k = 4 ∨ k = 5 ∨ k = 6 ∨ k = 7 ∨ k = 8 := by omega
        rcases hk9 with rfl | rfl | rfl | rfl | rfl | rfl | rfl | rfl | rfl <;> simp (disch := omega) only [setI_eq, rset_rset, rset_s, rset_2, tI_s, tI_t, tI_j, tI_k]
      · simp (disch := omega) only [setI_eq, rset_rset, rset_s, rset_2, tI_s, tI_t, tI_j, tI_k]
        exact l4 p (by omega) k hk
  · refine ⟨fun k hk => ?_, fun k hk => ?_, fun i hi => ?_, fun p hp => by omega⟩
    · have hk5 : k = 0 ∨ k = 1 ∨ k = 2 ∨ k = 3 ∨ k = 4 := by omega
      rcases hk5 with rfl | rfl | rfl | rfl | rfl <;> simp (disch := omega) only [setI_eq, rset_rset, rset_s, rset_2, tI_s, tI_t, tI_j, tI_k, ts_t]
    · simp (disch := omega) only [setI_eq, rset_rset, rset_s, rset_2, tI_s, tI_t, tI_j, tI_k, ts_t, ts_s]
      rw [pk_cpy_in (by omega) (by omega)]
      simp
    · simp (disch := omega) only [setI_eq, rset_rset, rset_s, rset_2, tI_s, tI_t, tI_j, tI_k, ts_t, ts_s]
      rw [pk_cpy_in (by omega) (by rw [show ix (160 : Int32) = 160 by decide]; omega)]
      simp
end O4
