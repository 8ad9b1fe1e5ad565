/-! THE MODEL: an order is read -/
def sgn (T : Nat → Int32) (L : Nat) (lo hi : Int32) (i w : Nat) : Nat × Nat := if w = 0 ∧ (¬ ch T L i < lo) ∧ (¬ hi < ch T L i) then (i + 1, 0) else (i, 1)
theorem sgn_le {T : Nat → Int32} {L i w : Nat} {lo hi : Int32} (hlo : (0 : Int32) < lo) (h : i ≤ L) : (sgn T L lo hi i w).1 ≤ L ∧ (sgn T L lo hi i w).2 ≤ 1 := by
  unfold sgn
  by_cases q : w = 0 ∧ (¬ ch T L i < lo) ∧ (¬ hi < ch T L i)
  · rw [if_pos q]
    refine ⟨Classical.byContradiction fun z => q.2.1 ?_, Nat.zero_le _⟩
    dsimp only at z
    rw [ch_ge (by omega)]
    exact hlo
  · rw [if_neg q]
    exact ⟨h, Nat.le_refl _⟩
theorem wd_cons : ∀ k, k < 6 → wdB.getD k [] = ltr k :: (wdB.getD k []).tail := by decide
theorem Sg_id {μ : Nat → Nat → Nat → Int32} {i w : Nat} (h8 : μ 20 0 8 = nI i) (h9 : μ 20 0 9 = nI w) : Sg μ μ i w := ⟨fun _ _ => rfl, fun _ _ _ => rfl, h8, h9⟩
section M6
variable {g : GG} {d : Nat} {c n : Nat} {m : PM} {Q : Ou → PM → Nat → Nat → Prop} {L i w : Nat} {T : Nat → Int32} {μ0 μ : Nat → Nat → Nat → Int32}
theorem mo_sgO {lo hi : Int32} (hT : μ0 24 0 = T) (hl : μ0 20 0 6 = nI L) (hL : L ≤ 60) (s : SgO μ0 μ i w) (hi' : i ≤ L) (hw : w ≤ 1) (hlo : (0 : Int32) < lo) (h : ∀ μ', SgO μ0 μ' (sgn T L lo hi i w).1 (sgn T L lo hi i w).2 → μ' 26 = μ 26 → Q (.inl (some (pI (ch T L i)))) (rset m 9 μ') c n) : Wq g (d + 1) MX5_sign c n 0 [some (pO 20 9 0), some (pI lo), some (pI hi)] [] (rset m 9 μ) Q := by
  have s6 : (rset m 9 μ).1 9 20 0 6 = nI L := by rw [rset_s, s.2.1 6 (by decide) (by decide), hl]
  have s24 : (rset m 9 μ).1 9 24 0 = T := by rw [rset_s, s.1 24 (by decide) (by decide), hT]
  unfold sgn at h
  refine mo_sign (L := L) (i := i) (w := w) s6 hL (by rw [rset_s]; exact s.2.2.1) hi' (by rw [rset_s]; exact s.2.2.2) hw hlo (fun w0 q2 hiL μ1 g1 => ?_) (fun q2 μ1 g1 => ?_)
  · rw [s24] at q2 ⊢
    rw [rset_rset]
    rw [rset_s] at g1
    rw [if_pos ⟨w0, q2⟩] at h
    exact h μ1 (SgO_tr s g1) (g1.1 26 (by decide))
  · rw [s24] at q2 ⊢
    rw [rset_rset]
    rw [rset_s] at g1
    rw [if_neg (fun z => q2 z.1 z.2)] at h
    exact h μ1 (SgO_tr s g1) (g1.1 26 (by decide))
/-- what an order read is -/
def OrdE (r : Bool × Nat × (Nat × Nat × Nat)) (μ0 μ : Nat → Nat → Nat → Int32) : Prop := SgO μ0 μ r.2.1 (if r.1 then 0 else 1) ∧ (r.1 = true → μ 26 0 0 = ltr r.2.2.1 ∧ μ 26 0 1 = nI r.2.2.2.1 ∧ μ 26 0 2 = nI r.2.2.2.2)
theorem PO_n (ek : kA (ch T L i) = none) : PO T L i = (false, i, (0, 0, 0)) := by
  unfold PO
  rw [ek]
theorem PO_f {k j : Nat} (ek : kA (ch T L i) = some k) (ew : mW T L (wdB.getD k []) i = (false, j)) : PO T L i = (false, j, (0, 0, 0)) := by
  unfold PO
  rw [ek]
  dsimp only
  rw [ew]
theorem PO_5 {j : Nat} (ek : kA (ch T L i) = some 5) (ew : mW T L (wdB.getD 5 []) i = (true, j)) : PO T L i = (true, j, (5, 0, 0)) := by
  unfold PO
  rw [ek]
  dsimp only
  rw [ew]
  rfl
theorem PO_4 {j : Nat} (ek : kA (ch T L i) = some 4) (ew : mW T L (wdB.getD 4 []) i = (true, j)) : PO T L i = if (tnum T L 3 j).1 = -1 then (false, (tnum T L 3 j).2, (0, 0, 0)) else if ch T L (tnum T L 3 j).2 = 64 then (if (tnum T L 9 ((tnum T L 3 j).2 + 1)).1 = -1 then (false, (tnum T L 9 ((tnum T L 3 j).2 + 1)).2, (0, 0, 0)) else (true, (tnum T L 9 ((tnum T L 3 j).2 + 1)).2, (4, ix (tnum T L 3 j).1, ix (tnum T L 9 ((tnum T L 3 j).2 + 1)).1))) else (false, (tnum T L 3 j).2, (0, 0, 0)) := by
  unfold PO
  rw [ek]
  dsimp only
  rw [ew]
  rfl
theorem PO_k {k j : Nat} (ek : kA (ch T L i) = some k) (ew : mW T L (wdB.getD k []) i = (true, j)) (h4 : ¬ k = 4) (h5 : ¬ k = 5) : PO T L i = if (tnum T L 11 j).1 = -1 then (false, (tnum T L 11 j).2, (0, 0, 0)) else (true, (tnum T L 11 j).2, (k, ix (tnum T L 11 j).1, 0)) := by
  unfold PO
  rw [ek]
  dsimp only
  rw [ew]
  dsimp only
  simp only [if_neg h5, if_neg h4, if_pos (show k ≠ 4 from h4)]
theorem mo_num {k j : Nat} (hT : μ0 24 0 = T) (hl : μ0 20 0 6 = nI L) (hL : L ≤ 60) (s : SgO μ0 μ j w) (hj : j ≤ L) (hw : w ≤ 1) (h26 : μ 26 0 0 = ltr k ∧ μ 26 0 1 = 0 ∧ μ 26 0 2 = 0) (h : ∀ μ', SgO μ0 μ' (if w = 0 then (tnum T L 11 j).2 else j) (if w = 0 ∧ ¬ (tnum T L 11 j).1 = -1 then 0 else 1) → (w = 0 ∧ ¬ (tnum T L 11 j).1 = -1 → μ' 26 0 0 = ltr k ∧ μ' 26 0 1 = (tnum T L 11 j).1 ∧ μ' 26 0 2 = 0) → Q (.inl none) (rset m 9 μ') c n) : Wp g (d + 2) MX5_sign 0 [some (pO 20 9 0), some (pI 48), some (pI 57)] [] (rset m 9 μ) (cI fun r5 m6 => ((¬ ((setI m6 26 9 0 (ix 1) (r5 - 48)).1 9 20 0 9) = 0 → Wq g (d + 3) MX5_order c n 330 [some (pO 20 9 0), none, none, none] [] (setI m6 26 9 0 (ix 1) (r5 - 48)) Q) ∧ (((setI m6 26 9 0 (ix 1) (r5 - 48)).1 9 20 0 9) = 0 → ((¬ ((setI m6 26 9 0 (ix 1) (r5 - 48)).1 9 26 0 (ix 1)) = 1 → Wq g (d + 3) MX5_order c n 330 [some (pO 20 9 0), none, none, none] [] (setI m6 26 9 0 (ix 1) (r5 - 48)) Q) ∧ (((setI m6 26 9 0 (ix 1) (r5 - 48)).1 9 26 0 (ix 1)) = 1 → ((((setI m6 26 9 0 (ix 1) (r5 - 48)).1 9 20 0 6) ≤ ((setI m6 26 9 0 (ix 1) (r5 - 48)).1 9 20 0 8) → Wq g (d + 3) MX5_order c n 330 [some (pO 20 9 0), none, none, none] [] (setI m6 26 9 0 (ix 1) (r5 - 48)) Q) ∧ (¬ ((setI m6 26 9 0 (ix 1) (r5 - 48)).1 9 20 0 6) ≤ ((setI m6 26 9 0 (ix 1) (r5 - 48)).1 9 20 0 8) → (vp_in ((setI m6 26 9 0 (ix 1) (r5 - 48)).1 9 20 0 8) 60 ∧ ((¬ ((¬ ((setI m6 26 9 0 (ix 1) (r5 - 48)).1 9 24 0 (ix ((setI m6 26 9 0 (ix 1) (r5 - 48)).1 9 20 0 8))) < (48 : Int32)) ∧ (¬ (49 : Int32) < ((setI m6 26 9 0 (ix 1) (r5 - 48)).1 9 24 0 (ix ((setI m6 26 9 0 (ix 1) (r5 - 48)).1 9 20 0 8))))) → Wq g (d + 3) MX5_order c n 330 [some (pO 20 9 0), none, none, none] [] (setI m6 26 9 0 (ix 1) (r5 - 48)) Q) ∧ ((¬ ((setI m6 26 9 0 (ix 1) (r5 - 48)).1 9 24 0 (ix ((setI m6 26 9 0 (ix 1) (r5 - 48)).1 9 20 0 8))) < (48 : Int32)) ∧ (¬ (49 : Int32) < ((setI m6 26 9 0 (ix 1) (r5 - 48)).1 9 24 0 (ix ((setI m6 26 9 0 (ix 1) (r5 - 48)).1 9 20 0 8)))) → Wq g (d + 3) MX5_order c n 331 [some (pO 20 9 0), none, none, none] [pI 1] (setI m6 26 9 0 (ix 1) (r5 - 48)) Q)))))))))) := by
  have e330 : ∀ μ2, (∀ μ', μ' = tI μ2 26 0 1 (μ2 26 0 1) → Q (.inl none) (rset m 9 μ') c n) → Wq g (d + 3) MX5_order c n 330 [some (pO 20 9 0), none, none, none] [] (rset m 9 μ2) Q := fun μ2 hq => by
    refine sgX5_order_330 (sgX5_order_331 ⟨fun _ => sgX5_order_364 ⟨show vp_in (nI 1) 3 from vp_in_nI (by decide) (by decide), sgX5_order_365 ?_⟩, fun z => absurd rfl z⟩)
    simp (disch := omega) only [ixn, nI_1, nI_add, pk_mul, nI_p0, of0, of1, of2, of3, of4, of5, of6, of7, of8, dv16, dv4, rm4, at_n, pl_n, ce_n, oe_n, oe0, oe1, oe2, ix_0, ix_1, ix_2, ix_3, ix_4, ix_5, ix_6, ix_7, ix_8, setI_eq, rset_rset, rset_s, rset_2, tI_s, tI_t, tI_j, tI_k]
    exact hq _ rfl
  have h11 : (11 : Int32) = nI 11 := rfl
  refine mo_sgO (T := T) hT hl hL s hj hw (by decide) fun μ1 s1 e26 => ⟨rfl, rfl, ?_⟩
  dsimp only [cI]
  simp only [setI_eq, rset_rset, rset_s]
  have r9 : ∀ x, tI μ1 26 0 (ix 1) x 20 0 9 = μ1 20 0 9 := fun x => by rw [tI_t (by decide)]
  have r8 : ∀ x, tI μ1 26 0 (ix 1) x 20 0 8 = μ1 20 0 8 := fun x => by rw [tI_t (by decide)]
  have r6 : ∀ x, tI μ1 26 0 (ix 1) x 20 0 6 = μ1 20 0 6 := fun x => by rw [tI_t (by decide)]
  have r24 : ∀ x, tI μ1 26 0 (ix 1) x 24 0 = μ1 24 0 := fun x => by rw [tI_t (by decide)]
  rw [r9, r8, r6, r24, ix_1, tI_s, s1.2.2.2, s1.2.2.1, s1.2.1 6 (by decide) (by decide), s1.1 24 (by decide) (by decide), hT, hl]
  have fin : ∀ (ii ww : Nat) (x : Int32), SgO μ0 μ1 ii ww → (w = 0 → tnum T L 11 j = (x, ii)) → (ww = 0 → w = 0 ∧ ¬ x = -1 ∧ ch T L j - 48 = x) → (ww = 1 → (w = 0 → x = -1) ∧ (¬ w = 0 → ii = j)) → ww ≤ 1 → Wq g (d + 3) MX5_order c n 330 [some (pO 20 9 0), none, none, none] [] (rset m 9 (tI μ1 26 0 1 (ch T L j - 48))) Q := fun ii ww x sx t1 t2 t3 t4 => by
    refine e330 _ fun μ' e => ?_
    rw [tI_s, tI_tI] at e
    subst e
    by_cases w0 : ww = 0
    · obtain ⟨a1, a2, a3⟩ := t2 w0
      have t1' := t1 a1
      have := h (tI μ1 26 0 1 (ch T L j - 48)) (by
        rw [t1', if_pos a1, if_pos ⟨a1, a2⟩]
        rw [w0] at sx
        exact SgO_26 sx) (fun _ => by
        rw [t1', a3, tI_s, tI_k (by decide), tI_k (by decide), e26]
        exact ⟨h26.1, rfl, h26.2.2⟩)
      exact this
    · obtain ⟨a1, a2⟩ := t3 (by omega)
      have e1 : ww = 1 := by omega
      subst e1
      by_cases w0' : w = 0
      · have t1' := t1 w0'
        refine h _ ?_ (fun z => absurd (by rw [t1']; exact a1 w0') z.2)
        rw [t1', if_pos w0', if_neg (fun z => z.2 (a1 w0'))]
        exact SgO_26 sx
      · refine h _ ?_ (fun z => absurd z.1 w0')
        rw [if_neg w0', if_neg (fun z => w0' z.1), ← a2 w0']
        exact SgO_26 sx
  by_cases q : w = 0 ∧ (¬ ch T L j < 48) ∧ (¬ 57 < ch T L j)
  · obtain ⟨w0, q2⟩ := q
    subst w0
    obtain ⟨v, hv, ev, ed, hjL⟩ := dg_ch q2
    have es : sgn T L 48 57 j 0 = (j + 1, 0) := if_pos ⟨rfl, q2⟩
    rw [es] at s1 ⊢
    dsimp only at s1 ⊢
    have t11 := tn_11 ed hv
    rw [← h11] at t11
    refine ⟨fun z => absurd rfl z, fun _ => ?_⟩
    have v1 : ch T L j - 48 = 1 ↔ v = 1 := by
      rw [ev, sub48]
      exact ⟨fun z => nI_i (by omega) (by decide) (show nI v = nI 1 from z), fun z => by rw [z]; rfl⟩
    have sing : ¬ (v = 1 ∧ (¬ ch T L (j + 1) < 48) ∧ (¬ 49 < ch T L (j + 1))) → Wq g (d + 3) MX5_order c n 330 [some (pO 20 9 0), none, none, none] [] (rset m 9 (tI μ1 26 0 1 (ch T L j - 48))) Q := fun z => by
      rw [if_neg z] at t11
      exact fin (j + 1) 0 (nI v) s1 (fun _ => t11) (fun _ => ⟨rfl, nI_m1 (by omega), by rw [ev, sub48]⟩) (fun z => by omega) (by decide)
    rw [v1, nI_leI (by omega) (by omega)]
    refine ⟨fun z => sing (fun y => z y.1), fun z => ⟨fun y => sing (fun x => x.2.1 (by rw [ch_ge y]; decide)), fun y => ⟨vp_in_nI (by omega) (by decide), ?_⟩⟩⟩
    rw [ixn (by omega), ← ch_lt (T := T) (L := L) (i := j + 1) (by omega)]
    refine ⟨fun x => sing (fun u => x u.2), fun x => ?_⟩
    rw [if_pos ⟨z, x⟩] at t11
    refine sgX5_order_331 ⟨fun u => absurd u (by decide), fun _ => ?_⟩
    refine mo_sgO (T := T) (μ0 := μ0) hT hl hL (SgO_26 s1) (by omega) (by decide) (by decide) fun μ2 s2 e2 => ⟨rfl, rfl, ?_⟩
    dsimp only [cI]
    have es2 : sgn T L 48 49 (j + 1) 0 = (j + 1 + 1, 0) := if_pos ⟨rfl, x⟩
    rw [es2] at s2
    refine sgX5_order_364 ⟨show vp_in (nI 1) 3 from vp_in_nI (by decide) (by decide), sgX5_order_365 ?_⟩
    rw [setI_eq, rset_rset, rset_s, ix_1]
    have nm : ¬ (10 + ch T L (j + 1)) - 48 = -1 := by
      obtain ⟨u, _, eu, _, _⟩ := dg_ch (T := T) (L := L) (i := j + 1) ⟨x.1, fun u => x.2 (Int32.lt_trans (by decide) u)⟩
      rw [eu, add48]
      exact nI_m1 (by omega)
    refine h _ ?_ (fun _ => ?_)
    · rw [t11, if_pos rfl, if_pos ⟨rfl, nm⟩]
      exact SgO_26 s2
    · rw [t11, tI_s, tI_k (by decide), tI_k (by decide), e2, tI_k (by decide), tI_k (by decide), e26]
      exact ⟨h26.1, rfl, h26.2.2⟩
  · have es : sgn T L 48 57 j w = (j, 1) := if_neg q
    rw [es] at s1 ⊢
    dsimp only at s1 ⊢
    refine ⟨fun _ => ?_, fun z => absurd z (by decide)⟩
    refine fin j 1 (-1) s1 (fun w0 => ?_) (fun z => by omega) (fun _ => ⟨fun _ => rfl, fun _ => rfl⟩) (by decide)
    exact tn_no (dg_no fun z => q ⟨w0, z⟩)
theorem mo_order_184 {k : Nat} (hT : μ0 24 0 = T) (hl : μ0 20 0 6 = nI L) (hL : L ≤ 60) (s : SgO μ0 μ (i + 1) 0) (h26 : μ 26 0 0 = ltr k) (hi : i < L) (hk : k < 6) (ek : kA (ch T L i) = some k) (h : ∀ μ', OrdE (PO T L i) μ0 μ' → Q (.inl none) (rset m 9 μ') c n) : Wq g (d + 3) MX5_order c n 184 [some (pO 20 9 0), some (pI (ltr k)), none, none] [pI (pk k)] (rset m 9 μ) Q := by
  have s24 : μ 24 0 = T := by rw [s.1 24 (by decide) (by decide), hT]
  have s6 : μ 20 0 6 = nI L := by rw [s.2.1 6 (by decide) (by decide), hl]
  have ch0 : ch T L i = ltr k := kA_eq ek
  have em : mW T L (wdB.getD k []) i = mW T L (wdB.getD k []).tail (i + 1) := by
    rw [wd_cons k hk, mW, if_pos ch0]
    rfl
  have hle := mW_le (T := T) (L := L) (l := wdB.getD k []) (i := i) (wd_ne k hk) (by omega)
  refine sgX5_order_184 (mo_word hk hL s24 s6 (by omega) (by decide) (Sg_id s.2.2.1 s.2.2.2) fun μ2 g2 => ⟨rfl, rfl, ?_⟩)
  dsimp only [cV]
  unfold mWw at g2
  rw [if_pos rfl, ← em] at g2
  have s2 := SgO_tr s g2
  have e26 : μ2 26 = μ 26 := g2.1 26 (by decide)
  clear g2
  generalize ew : mW T L (wdB.getD k []) i = bj at *
  obtain ⟨b, j⟩ := bj
  dsimp only at s2 hle
  have hw1 : (if b = true then 0 else 1) ≤ 1 := by split <;> omega
  rw [setI_eq, setI_eq, rset_rset, rset_s, rset_rset, rset_s, ix_1, ix_2]
  have s3 := SgO_26 (k := 2) (x := 0) (SgO_26 (k := 1) (x := 0) s2)
  have f26 : tI (tI μ2 26 0 1 0) 26 0 2 0 26 0 0 = ltr k ∧ tI (tI μ2 26 0 1 0) 26 0 2 0 26 0 1 = 0 ∧ tI (tI μ2 26 0 1 0) 26 0 2 0 26 0 2 = 0 := by
    rw [tI_s, tI_k (by decide), tI_k (by decide), tI_k (by decide), tI_s, e26]
    exact ⟨h26, rfl, rfl⟩
  have k110 : ltr k = 110 ↔ k = 5 := by
    have : k = 0 ∨ k = 1 ∨ k = 2 ∨ k = 3 ∨ k = 4 ∨ k = 5 := by omega
    rcases this with rfl | rfl | rfl | rfl | rfl | rfl <;> decide
  have k105 : ltr k = 105 ↔ k = 4 := by
    have : k = 0 ∨ k = 1 ∨ k = 2 ∨ k = 3 ∨ k = 4 ∨ k = 5 := by omega
    rcases this with rfl | rfl | rfl | rfl | rfl | rfl <;> decide
  rw [k110, k105]
  generalize tI (tI μ2 26 0 1 0) 26 0 2 0 = μ3 at *
  refine ⟨fun k4 => ⟨fun k5 => ?_, fun k5 => ?_⟩, fun k4 => ?_⟩
  · subst k5
    refine sgX5_order_365 (h _ ?_)
    cases b with
    | false =>
      rw [PO_f ek ew]
      exact ⟨s3, fun z => absurd z Bool.false_ne_true⟩
    | true =>
      rw [PO_5 ek ew]
      exact ⟨s3, fun _ => f26⟩
  · refine mo_num (k := k) hT hl hL s3 hle.2 hw1 f26 fun μ4 s4 f4 => h _ ?_
    cases b with
    | false =>
      rw [PO_f ek ew]
      exact ⟨s4, fun z => absurd z Bool.false_ne_true⟩
    | true =>
      rw [PO_k ek ew k4 k5]
      by_cases q : (tnum T L 11 j).1 = -1
      · rw [if_pos q]
        rw [if_pos (show (if true = true then 0 else 1) = 0 from rfl), if_neg (fun z => z.2 q)] at s4
        exact ⟨s4, fun z => absurd z Bool.false_ne_true⟩
      · rw [if_neg q]
        have f5 := f4 ⟨rfl, q⟩
        rw [if_pos (show (if true = true then 0 else 1) = 0 from rfl), if_pos ⟨rfl, q⟩] at s4
        refine ⟨s4, fun _ => ⟨f5.1, ?_, f5.2.2⟩⟩
        rw [f5.2.1]
        exact (tnum_ix q).symm
  · subst k4
    refine mo_sgO (T := T) (μ0 := μ0) hT hl hL s3 hle.2 hw1 (by decide) fun μ4 s4 e4 => ⟨rfl, rfl, ?_⟩
    dsimp only [cI]
    have l4 := sgn_le (T := T) (L := L) (i := j) (w := if b = true then 0 else 1) (lo := 48) (hi := 51) (by decide) hle.2
    rw [setI_eq, rset_rset, rset_s]
    refine mo_sgO (T := T) (μ0 := μ0) hT hl hL (SgO_26 s4) l4.1 l4.2 (by decide) fun μ5 s5 e5 => ⟨rfl, rfl, ?_⟩
    dsimp only [cI]
    have l5 := sgn_le (T := T) (L := L) (i := (sgn T L 48 51 j (if b = true then 0 else 1)).1) (w := (sgn T L 48 51 j (if b = true then 0 else 1)).2) (lo := 64) (hi := 64) (by decide) l4.1
    refine mo_sgO (T := T) (μ0 := μ0) hT hl hL s5 l5.1 l5.2 (by decide) fun μ6 s6 e6 => ⟨rfl, rfl, ?_⟩
    dsimp only [cI]
    refine sgX5_order_365 ?_
    rw [setI_eq, rset_rset, rset_s]
    refine h _ ?_
    have s7 := SgO_26 (k := 2) (x := ch T L (sgn T L 64 64 (sgn T L 48 51 j (if b = true then 0 else 1)).1 (sgn T L 48 51 j (if b = true then 0 else 1)).2).1 - 48) s6
    have g0 : tI μ6 26 0 2 (ch T L (sgn T L 64 64 (sgn T L 48 51 j (if b = true then 0 else 1)).1 (sgn T L 48 51 j (if b = true then 0 else 1)).2).1 - 48) 26 0 0 = ltr 4 ∧ tI μ6 26 0 2 (ch T L (sgn T L 64 64 (sgn T L 48 51 j (if b = true then 0 else 1)).1 (sgn T L 48 51 j (if b = true then 0 else 1)).2).1 - 48) 26 0 1 = ch T L j - 48 ∧ tI μ6 26 0 2 (ch T L (sgn T L 64 64 (sgn T L 48 51 j (if b = true then 0 else 1)).1 (sgn T L 48 51 j (if b = true then 0 else 1)).2).1 - 48) 26 0 2 = ch T L (sgn T L 64 64 (sgn T L 48 51 j (if b = true then 0 else 1)).1 (sgn T L 48 51 j (if b = true then 0 else 1)).2).1 - 48 := by
      rw [tI_s, tI_k (by decide), tI_k (by decide), e6, e5, tI_s, tI_k (by decide), e4]
      exact ⟨f26.1, rfl, rfl⟩
    generalize tI μ6 26 0 2 (ch T L (sgn T L 64 64 (sgn T L 48 51 j (if b = true then 0 else 1)).1 (sgn T L 48 51 j (if b = true then 0 else 1)).2).1 - 48) = μ7 at *
    clear s6 s5 s4 s3 s2 e6 e5 e4
    have bad : ∀ i1, sgn T L 64 64 i1 1 = (i1, 1) ∧ sgn T L 48 57 i1 1 = (i1, 1) := fun i1 => ⟨if_neg (fun z => absurd z.1 (by decide)), if_neg (fun z => absurd z.1 (by decide))⟩
    cases b with
    | false =>
      rw [PO_f ek ew]
      rw [show sgn T L 48 51 j (if false = true then 0 else 1) = (j, 1) from if_neg (fun z => absurd z.1 (by decide))] at s7
      dsimp only at s7
      rw [(bad j).1] at s7
      dsimp only at s7
      rw [(bad j).2] at s7
      exact ⟨s7, fun z => absurd z Bool.false_ne_true⟩
    | true =>
      rw [if_pos rfl] at s7 g0
      rw [PO_4 ek ew, show (3 : Int32) = nI 3 from rfl, show (9 : Int32) = nI 9 from rfl]
      by_cases q : (¬ ch T L j < 48) ∧ (¬ 51 < ch T L j)
      · obtain ⟨v, hv, ev, ed, hjL⟩ := dg_ch (T := T) (L := L) (i := j) ⟨q.1, fun z => q.2 (Int32.lt_trans (by decide) z)⟩
        have hv3 : v ≤ 3 := by
          have := Int32.not_lt.mp q.2
          rw [ev, show (51 : Int32) = nI 51 from rfl, nI_leI (by omega) (by decide)] at this
          omega
        rw [show sgn T L 48 51 j 0 = (j + 1, 0) from if_pos ⟨rfl, q⟩] at s7 g0
        dsimp only at s7 g0
        rw [tn_small (by decide) ed hv3]
        dsimp only
        rw [if_neg (nI_m1 (by omega))]
        by_cases q2 : ch T L (j + 1) = 64
        · rw [if_pos q2]
          rw [show sgn T L 64 64 (j + 1) 0 = (j + 1 + 1, 0) from if_pos ⟨rfl, by rw [q2]; decide⟩] at s7 g0
          dsimp only at s7 g0
          by_cases q3 : (¬ ch T L (j + 1 + 1) < 48) ∧ (¬ 57 < ch T L (j + 1 + 1))
          · obtain ⟨u, hu, eu, ed2, hjL2⟩ := dg_ch q3
            rw [show sgn T L 48 57 (j + 1 + 1) 0 = (j + 1 + 1 + 1, 0) from if_pos ⟨rfl, q3⟩] at s7
            rw [tn_small (by decide) ed2 (by omega)]
            dsimp only at s7 ⊢
            rw [if_neg (nI_m1 (by omega))]
            refine ⟨s7, fun _ => ?_⟩
            rw [ev, eu, sub48, sub48] at g0
            dsimp only
            rw [ixn (by omega), ixn (by omega)]
            exact g0
          · rw [show sgn T L 48 57 (j + 1 + 1) 0 = (j + 1 + 1, 1) from if_neg (fun z => q3 z.2)] at s7
            rw [tn_no (dg_no q3)]
            dsimp only at s7 ⊢
            rw [if_pos rfl]
            exact ⟨s7, fun z => absurd z Bool.false_ne_true⟩
        · rw [if_neg q2]
          rw [show sgn T L 64 64 (j + 1) 0 = (j + 1, 1) from if_neg (fun z => q2 (Int32.le_antisymm (Int32.not_lt.mp z.2.2) (Int32.not_lt.mp z.2.1)))] at s7
          dsimp only at s7
          rw [(bad _).2] at s7
          exact ⟨s7, fun z => absurd z Bool.false_ne_true⟩
      · rw [show sgn T L 48 51 j 0 = (j, 1) from if_neg (fun z => q z.2)] at s7
        dsimp only at s7
        rw [(bad j).1] at s7
        dsimp only at s7
        rw [(bad j).2] at s7
        have t3 : tnum T L (nI 3) j = (-1, j) := by
          by_cases q2 : (¬ ch T L j < 48) ∧ (¬ 57 < ch T L j)
          · obtain ⟨v, hv, ev, ed, hjL⟩ := dg_ch q2
            rw [tn_v (by decide) ed hv, if_pos ?_]
            refine Classical.byContradiction fun z => q ⟨q2.1, ?_⟩
            rw [ev, show (51 : Int32) = nI 51 from rfl, ← Int32.not_le, nI_leI (by omega) (by decide)]
            omega
          · exact tn_no (dg_no q2)
        rw [t3]
        dsimp only
        rw [if_pos rfl]
        exact ⟨s7, fun z => absurd z Bool.false_ne_true⟩
end M6
