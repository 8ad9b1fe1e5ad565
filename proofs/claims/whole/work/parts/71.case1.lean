/-! THE LAW: calls that change something -/
section C1
variable {g : GG} {d : Nat} {m : PM} {N K E P S L : Nat} {Lp Y : PM → Prop} {x y : Int32}
/-- the model's end of a call that did something -/
theorem la_do {m1 : PM} {μ μ' τ' : Nat → Nat → Nat → Int32} {v : Int64} {o : Nat × Nat × Nat} (hT : Tp N K E P S L m) (hN : N + 1 ≤ 1048576) (ok : oOk E P (m.1 0) o = true) (hb : o.2.2 < 10) (s : SvE S m m1) (a : Ap τ' (oDo E P (m.1 0) o)) (hs : SvF S ((setL (rset m1 0 τ') 0 v).1 9) μ) (f : Fr μ' μ) (r : Rel E P (oDo E P (m.1 0) o) (μ' 21 0)) : Top (N + 1) (rset (setL (rset m1 0 τ') 0 v) 9 μ') ∧ (rset (setL (rset m1 0 τ') 0 v) 9 μ').1 9 20 0 0 = 0 ∧ (rset (setL (rset m1 0 τ') 0 v) 9 μ').2 0 = v := by
  obtain ⟨t1, t2, t3, t4, t5, t6, t7, t8, t9, t10, t11, t12, t13⟩ := hT
  have e9 : (setL (rset m1 0 τ') 0 v).1 9 = m.1 9 := by rw [setL_1, rset_n (by decide), s.2.1 9 (by decide)]
  rw [e9] at hs
  have u20 : μ' 20 = μ 20 := f 20 (by decide) (by decide)
  refine ⟨Top_w (M := rset (setL (rset m1 0 τ') 0 v) 9 μ') (K2 := K + 4) (L2 := L) t1 t2 t6 t7 s hs (by rw [tI_t (by decide)]) (by rw [tI_t (by decide)]) (by rw [tI_t (by decide), t11]) rset_s (f 23 (by decide) (by decide)) (f 24 (by decide) (by decide)) (by rw [u20]) (Rel_ap a r) (by rw [rset_n (by decide), setL_1, rset_s]) (Vv_ap a (oDo_Vv t1 ok hb (by omega))) (fun r h1 h2 => by rw [rset_n (by omega), setL_1, rset_n (by omega)]) (fun t _ => by rw [rset_n (by decide), setL_1, rset_n (by decide)]) (by rw [rset_n (by decide), setL_1, rset_n (by decide), s.2.2.1 12 (by decide) (by decide)]; exact t8) (by rw [u20, hs.2.1 6 (by decide), tI_k (by decide)]; exact t9) t10 (by omega) (by omega) hN, ?_, ?_⟩
  · rw [rset_s, u20, hs.2.1 0 (by decide), tI_s]
  · rw [rset_2, setL_s]
/-- a call that is refused -/
theorem la_no {k : Int32} {v : Int64} (hT : Tp N K E P S L m) (hN : N + 1 ≤ 1048576) : Top (N + 1) (setI m 20 9 0 0 k) ∧ (setI m 20 9 0 0 k).1 9 20 0 0 = k := by
  rw [setI_eq]
  refine ⟨Top_l hT (fun r h1 h2 => by rw [rset_n (by omega)]) (fun t _ => by rw [rset_n (by decide)]) (by rw [rset_n (by decide)]; exact hT.2.2.2.2.2.2.2.1) (fun t ht => by rw [rset_s, tI_t (by omega)]) (by rw [rset_s, tI_k (by decide)]) (by rw [rset_s, tI_k (by decide)]) (fun j _ => by rw [rset_s, tI_t (by decide)]) hN, ?_⟩
  rw [rset_s, tI_s]
theorem la_ask {V : Prop} (hv : V) (hT : Tp N K E P S L m) (hN : N + 1 ≤ 1048576) (hL : ∀ M, Top (N + 1) M → Lp M) : Wq g (d + 8) ML_ask 1 6 0 [some (pO 10 8 0), some (pI x), some (pO 40 10 0)] [] m (fun o m9 c9 n9 => c9 = 0 ∧ n9 = 0 ∧ cI (fun r h => V ∧ Wp g (d + 8) MX5_ask 0 [some (pO 20 9 0), some (pI x)] [] h (cI (aF Lp Y r))) o m9) := by
  obtain ⟨t1, t2, t3, t4, t5, t6, t7, t8, t9, t10, t11, t12, t13⟩ := hT
  have hT : Tp N K E P S L m := ⟨t1, t2, t3, t4, t5, t6, t7, t8, t9, t10, t11, t12, t13⟩
  have hP := t1.1.P12
  refine sgL_ask (co_ask (K := K) (E := E) (P := P) (S := S) t1 (by omega) t3 t4 t6 (fun q => ⟨rfl, rfl, cX_3 ⟨rfl, rfl, hv, ?_⟩⟩) (fun p hp e ok => ⟨rfl, rfl, cX_1 ⟨rfl, rfl, hv, ?_⟩⟩) (fun p hp e ok m1 τ' s a => ⟨rfl, rfl, ⟨rfl, rfl, hv, ?_⟩⟩))
  · refine mo_ask t2 t1 (by omega) t5 t6 (fun _ => ⟨rfl, rfl, ?_⟩) (fun p hp e => absurd ⟨p, hp, e⟩ q) (fun p hp e => absurd ⟨p, hp, e⟩ q)
    obtain ⟨z1, z2⟩ := la_no (k := 1) (v := 0) hT hN
    exact aF_e z2 (by decide) (hL _ z1)
  · refine mo_ask t2 t1 (by omega) t5 t6 (fun q => absurd ⟨p, hp, e⟩ q) (fun p' hp' e' ok' => ⟨rfl, rfl, ?_⟩) (fun p' hp' e' ok' => ?_)
    · obtain ⟨z1, z2⟩ := la_no (k := 2) (v := 0) hT hN
      exact aF_e z2 (by decide) (hL _ z1)
    · have : p' = p := nI_i (by omega) (by omega) (by rw [← e', ← e])
      subst this
      rw [ok] at ok'
      exact absurd ok' (by decide)
  · have e9 : (setL (rset m1 0 τ') 0 (Int32.toInt64 (oAns E P (m.1 0) (0, p, 0)))).1 9 = m.1 9 := by rw [setL_1, rset_n (by decide), s.2.1 9 (by decide)]
    refine mo_ask (m := setL (rset m1 0 τ') 0 (Int32.toInt64 (oAns E P (m.1 0) (0, p, 0)))) (τ := m.1 0) (K := K) (E := E) (P := P) (S := S) (by rw [e9]; exact t2) t1 (by omega) (by rw [e9]; exact t5) t6 (fun q => absurd ⟨p, hp, e⟩ q) (fun p' hp' e' ok' => ?_) (fun p' hp' e' ok' μ μ' hs f r => ⟨rfl, rfl, ?_⟩)
    · have : p' = p := nI_i (by omega) (by omega) (by rw [← e', ← e])
      subst this
      rw [ok] at ok'
      exact absurd ok' (by decide)
    · have : p' = p := nI_i (by omega) (by omega) (by rw [← e', ← e])
      subst this
      obtain ⟨z1, z2, z3⟩ := la_do hT hN ok (by show 0 < 10; decide) s a hs f r
      exact aF_0 z2 z3 (hL _ z1)
theorem la_quit {V : Prop} (hv : V) (hT : Tp N K E P S L m) (hN : N + 1 ≤ 1048576) (hL : ∀ M, Top (N + 1) M → Lp M) : Wq g (d + 8) ML_quit 1 6 0 [some (pO 10 8 0), some (pI x), some (pO 40 10 0)] [] m (fun o m9 c9 n9 => c9 = 0 ∧ n9 = 0 ∧ cI (fun r h => V ∧ Wp g (d + 8) MX5_quit 0 [some (pO 20 9 0), some (pI x)] [] h (cI (aF Lp Y r))) o m9) := by
  obtain ⟨t1, t2, t3, t4, t5, t6, t7, t8, t9, t10, t11, t12, t13⟩ := hT
  have hT : Tp N K E P S L m := ⟨t1, t2, t3, t4, t5, t6, t7, t8, t9, t10, t11, t12, t13⟩
  have hP := t1.1.P12
  refine sgL_quit (co_quit (K := K) (E := E) (P := P) (S := S) t1 t3 t4 t6 (fun q => ⟨rfl, rfl, cX_3 ⟨rfl, rfl, hv, ?_⟩⟩) (fun p hp e ok => ⟨rfl, rfl, cX_1 ⟨rfl, rfl, hv, ?_⟩⟩) (fun p hp e ok m1 τ' s a => ⟨rfl, rfl, ⟨rfl, rfl, hv, ?_⟩⟩))
  · refine mo_quit t2 t1 (by omega) t5 t6 (fun _ => ⟨rfl, rfl, ?_⟩) (fun p hp e => absurd ⟨p, hp, e⟩ q) (fun p hp e => absurd ⟨p, hp, e⟩ q)
    obtain ⟨z1, z2⟩ := la_no (k := 1) (v := 0) hT hN
    exact aF_e z2 (by decide) (hL _ z1)
  · refine mo_quit t2 t1 (by omega) t5 t6 (fun q => absurd ⟨p, hp, e⟩ q) (fun p' hp' e' ok' => ⟨rfl, rfl, ?_⟩) (fun p' hp' e' ok' => ?_)
    · obtain ⟨z1, z2⟩ := la_no (k := 2) (v := 0) hT hN
      exact aF_e z2 (by decide) (hL _ z1)
    · have : p' = p := nI_i (by omega) (by omega) (by rw [← e', ← e])
      subst this
      rw [ok] at ok'
      exact absurd ok' (by decide)
  · have e9 : (setL (rset m1 0 τ') 0 (Int32.toInt64 (oAns E P (m.1 0) (1, p, 0)))).1 9 = m.1 9 := by rw [setL_1, rset_n (by decide), s.2.1 9 (by decide)]
    refine mo_quit (m := setL (rset m1 0 τ') 0 (Int32.toInt64 (oAns E P (m.1 0) (1, p, 0)))) (τ := m.1 0) (K := K) (E := E) (P := P) (S := S) (by rw [e9]; exact t2) t1 (by omega) (by rw [e9]; exact t5) t6 (fun q => absurd ⟨p, hp, e⟩ q) (fun p' hp' e' ok' => ?_) (fun p' hp' e' ok' μ μ' hs f r => ⟨rfl, rfl, ?_⟩)
    · have : p' = p := nI_i (by omega) (by omega) (by rw [← e', ← e])
      subst this
      rw [ok] at ok'
      exact absurd ok' (by decide)
    · have : p' = p := nI_i (by omega) (by omega) (by rw [← e', ← e])
      subst this
      obtain ⟨z1, z2, z3⟩ := la_do hT hN ok (by show 0 < 10; decide) s a hs f r
      exact aF_0 z2 z3 (hL _ z1)
theorem la_test {V V2 : Prop} {k : Nat} (hk : (k = 3 ∧ y = 0) ∨ (k = 2 ∧ ¬ y = 0)) (hT : Tp N K E P S L m) (hN : N + 1 ≤ 1048576) (hL : ∀ M, Top (N + 1) M → Lp M) {F : Int32 → PM → Prop} (hF : ∀ r h, Wp g (d + 8) MX5_test 0 [some (pO 20 9 0), some (pI x), some (pI y)] [] h (cI (aF Lp Y r)) → F r h) : Wq g (d + 8) ML_test 1 6 0 [some (pO 10 8 0), some (pI x), some (pI y), some (pO 40 10 0)] [] m (fun o m9 c9 n9 => c9 = 0 ∧ n9 = 0 ∧ cI F o m9) := by
  obtain ⟨t1, t2, t3, t4, t5, t6, t7, t8, t9, t10, t11, t12, t13⟩ := hT
  have hT : Tp N K E P S L m := ⟨t1, t2, t3, t4, t5, t6, t7, t8, t9, t10, t11, t12, t13⟩
  have hP := t1.1.P12
  refine sgL_test (co_test (K := K) (E := E) (P := P) (S := S) hk t1 t3 t4 t6 (fun q => ⟨rfl, rfl, cX_3 ⟨rfl, rfl, hF _ _ ?_⟩⟩) (fun p hp e ok => ⟨rfl, rfl, cX_1 ⟨rfl, rfl, hF _ _ ?_⟩⟩) (fun p hp e ok m1 τ' s a => ⟨rfl, rfl, ⟨rfl, rfl, hF _ _ ?_⟩⟩))
  · refine mo_test hk t2 t1 t5 t6 (fun _ => ⟨rfl, rfl, ?_⟩) (fun p hp e => absurd ⟨p, hp, e⟩ q) (fun p hp e => absurd ⟨p, hp, e⟩ q)
    obtain ⟨z1, z2⟩ := la_no (k := 1) (v := 0) hT hN
    exact aF_e z2 (by decide) (hL _ z1)
  · refine mo_test hk t2 t1 t5 t6 (fun q => absurd ⟨p, hp, e⟩ q) (fun p' hp' e' ok' => ⟨rfl, rfl, ?_⟩) (fun p' hp' e' ok' => ?_)
    · obtain ⟨z1, z2⟩ := la_no (k := 2) (v := 0) hT hN
      exact aF_e z2 (by decide) (hL _ z1)
    · have : p' = p := nI_i (by omega) (by omega) (by rw [← e', ← e])
      subst this
      rw [ok] at ok'
      exact absurd ok' (by decide)
  · have e9 : (setL (rset m1 0 τ') 0 (Int32.toInt64 (oAns E P (m.1 0) (k, p, 0)))).1 9 = m.1 9 := by rw [setL_1, rset_n (by decide), s.2.1 9 (by decide)]
    refine mo_test (m := setL (rset m1 0 τ') 0 (Int32.toInt64 (oAns E P (m.1 0) (k, p, 0)))) (τ := m.1 0) (K := K) (E := E) (P := P) (S := S) hk (by rw [e9]; exact t2) t1 (by rw [e9]; exact t5) t6 (fun q => absurd ⟨p, hp, e⟩ q) (fun p' hp' e' ok' => ?_) (fun p' hp' e' ok' μ μ' hs f r => ⟨rfl, rfl, ?_⟩)
    · have : p' = p := nI_i (by omega) (by omega) (by rw [← e', ← e])
      subst this
      rw [ok] at ok'
      exact absurd ok' (by decide)
    · have : p' = p := nI_i (by omega) (by omega) (by rw [← e', ← e])
      subst this
      obtain ⟨z1, z2, z3⟩ := la_do hT hN ok (by show 0 < 10; decide) s a hs f r
      exact aF_0 z2 z3 (hL _ z1)
theorem la_cancel {V V2 : Prop} (hv : V) (hv2 : V2) (hT : Tp N K E P S L m) (hN : N + 1 ≤ 1048576) (hL : ∀ M, Top (N + 1) M → Lp M) : Wq g (d + 8) ML_cancel 1 6 0 [some (pO 10 8 0), some (pI x), some (pI y), some (pO 40 10 0)] [] m (fun o m9 c9 n9 => c9 = 0 ∧ n9 = 0 ∧ cI (fun r h => V ∧ (V2 ∧ Wp g (d + 8) MX5_cancel 0 [some (pO 20 9 0), some (pI x), some (pI y)] [] h (cI (aF Lp Y r)))) o m9) := by
  obtain ⟨t1, t2, t3, t4, t5, t6, t7, t8, t9, t10, t11, t12, t13⟩ := hT
  have hT : Tp N K E P S L m := ⟨t1, t2, t3, t4, t5, t6, t7, t8, t9, t10, t11, t12, t13⟩
  have hE := t1.1.E4
  refine sgL_cancel (co_cancel (K := K) (E := E) (P := P) (S := S) t1 (by omega) t3 t4 t6 (fun q => ⟨rfl, rfl, cX_3 ⟨rfl, rfl, hv, hv2, ?_⟩⟩) (fun p hp e ok => ⟨rfl, rfl, cX_2 ⟨rfl, rfl, hv, hv2, ?_⟩⟩) (fun p D hp e hD eD m1 τ' s a => ⟨rfl, rfl, ⟨rfl, rfl, hv, hv2, ?_⟩⟩))
  · refine mo_cancel t2 t1 (by omega) t5 t6 (fun _ => ⟨rfl, rfl, ?_⟩) (fun p hp e => absurd ⟨p, hp, e⟩ q) (fun p D hp e => absurd ⟨p, hp, e⟩ q)
    obtain ⟨z1, z2⟩ := la_no (k := 1) (v := 0) hT hN
    exact aF_e z2 (by decide) (hL _ z1)
  · refine mo_cancel t2 t1 (by omega) t5 t6 (fun q => absurd ⟨p, hp, e⟩ q) (fun p' hp' e' ok' => ⟨rfl, rfl, ?_⟩) (fun p' D hp' e' hD eD => absurd ⟨D, hD, eD⟩ ok)
    obtain ⟨z1, z2⟩ := la_no (k := 2) (v := 0) hT hN
    exact aF_e z2 (by decide) (hL _ z1)
  · have e9 : (setL (rset m1 0 τ') 0 (Int32.toInt64 (oAns E P (m.1 0) (4, p, D)))).1 9 = m.1 9 := by rw [setL_1, rset_n (by decide), s.2.1 9 (by decide)]
    refine mo_cancel (m := setL (rset m1 0 τ') 0 (Int32.toInt64 (oAns E P (m.1 0) (4, p, D)))) (τ := m.1 0) (K := K) (E := E) (P := P) (S := S) (by rw [e9]; exact t2) t1 (by omega) (by rw [e9]; exact t5) t6 (fun q => absurd ⟨p, hp, e⟩ q) (fun p' hp' e' ok' => absurd ⟨D, hD, eD⟩ ok') (fun p' D' hp' e' hD' eD' μ μ' hs f r => ⟨rfl, rfl, ?_⟩)
    have : p' = p := nI_i (by omega) (by omega) (by rw [← e', ← e])
    subst this
    have : D' = D := nI_i (by omega) (by omega) (by rw [← eD', ← eD])
    subst this
    obtain ⟨z1, z2, z3⟩ := la_do hT hN (by simp [oOk, hp]) (by show D' < 10; omega) s a hs f r
    exact aF_0 z2 z3 (hL _ z1)
theorem la_next (hT : Tp N K E P S L m) (hN : N + 1 ≤ 1048576) (hL : ∀ M, Top (N + 1) M → Lp M) : Wq g (d + 8) ML_next 1 6 0 [some (pO 10 8 0), some (pO 40 10 0)] [] m (fun o m9 c9 n9 => c9 = 0 ∧ n9 = 0 ∧ cI (fun r h => Wp g (d + 8) MX5_next 0 [some (pO 20 9 0)] [] h (cI (aF Lp Y r))) o m9) := by
  obtain ⟨t1, t2, t3, t4, t5, t6, t7, t8, t9, t10, t11, t12, t13⟩ := hT
  have hT : Tp N K E P S L m := ⟨t1, t2, t3, t4, t5, t6, t7, t8, t9, t10, t11, t12, t13⟩
  refine sgL_next (co_next (K := K) (E := E) (P := P) (S := S) t1 t3 t4 t6 (fun ok => ⟨rfl, rfl, cX_1 ⟨rfl, rfl, ?_⟩⟩) (fun ok m1 τ' s a => ⟨rfl, rfl, ⟨rfl, rfl, ?_⟩⟩))
  · refine mo_next t2 t1 (by omega) t5 t6 (fun _ => ⟨rfl, rfl, ?_⟩) (fun ok' => ?_)
    · obtain ⟨z1, z2⟩ := la_no (k := 1) (v := 0) hT hN
      exact aF_e z2 (by decide) (hL _ z1)
    · rw [ok] at ok'
      exact absurd ok' (by decide)
  · have e9 : (setL (rset m1 0 τ') 0 (Int32.toInt64 (oAns E P (m.1 0) (5, 0, 0)))).1 9 = m.1 9 := by rw [setL_1, rset_n (by decide), s.2.1 9 (by decide)]
    refine mo_next (m := setL (rset m1 0 τ') 0 (Int32.toInt64 (oAns E P (m.1 0) (5, 0, 0)))) (τ := m.1 0) (K := K) (E := E) (P := P) (S := S) (by rw [e9]; exact t2) t1 (by omega) (by rw [e9]; exact t5) t6 (fun ok' => ?_) (fun ok' μ μ' hs f r => ⟨rfl, rfl, ?_⟩)
    · rw [ok] at ok'
      exact absurd ok' (by decide)
    · obtain ⟨z1, z2, z3⟩ := la_do hT hN ok (by show 0 < 10; decide) s a hs f r
      exact aF_0 z2 z3 (hL _ z1)
/-- the model's end of a call that did something to the office in general -/
theorem la_ge {E2 P2 : Nat} {m1 : PM} {μ μ' τ' τ2 : Nat → Nat → Nat → Int32} {v : Int64} (hT : Tp N K E P S L m) (hN : N + 1 ≤ 1048576) (s : SvE S m m1) (a : Ap τ' τ2) (hV2 : Vv K E2 P2 τ2) (hs : SvF S ((setL (rset m1 0 τ') 0 v).1 9) μ) (f : Fr μ' μ) (r : Rel E2 P2 τ2 (μ' 21 0)) : Top (N + 1) (rset (setL (rset m1 0 τ') 0 v) 9 μ') ∧ (rset (setL (rset m1 0 τ') 0 v) 9 μ').1 9 20 0 0 = 0 ∧ (rset (setL (rset m1 0 τ') 0 v) 9 μ').2 0 = v := by
  obtain ⟨t1, t2, t3, t4, t5, t6, t7, t8, t9, t10, t11, t12, t13⟩ := hT
  have e9 : (setL (rset m1 0 τ') 0 v).1 9 = m.1 9 := by rw [setL_1, rset_n (by decide), s.2.1 9 (by decide)]
  rw [e9] at hs
  have u20 : μ' 20 = μ 20 := f 20 (by decide) (by decide)
  refine ⟨Top_w (M := rset (setL (rset m1 0 τ') 0 v) 9 μ') (K2 := K) (L2 := L) t1 t2 t6 t7 s hs (by rw [tI_t (by decide)]) (by rw [tI_t (by decide)]) (by rw [tI_t (by decide), t11]) rset_s (f 23 (by decide) (by decide)) (f 24 (by decide) (by decide)) (by rw [u20]) (Rel_ap a r) (by rw [rset_n (by decide), setL_1, rset_s]) (Vv_ap a hV2) (fun r h1 h2 => by rw [rset_n (by omega), setL_1, rset_n (by omega)]) (fun t _ => by rw [rset_n (by decide), setL_1, rset_n (by decide)]) (by rw [rset_n (by decide), setL_1, rset_n (by decide), s.2.2.1 12 (by decide) (by decide)]; exact t8) (by rw [u20, hs.2.1 6 (by decide), tI_k (by decide)]; exact t9) t10 (by omega) (by omega) hN, ?_, ?_⟩
  · rw [rset_s, u20, hs.2.1 0 (by decide), tI_s]
  · rw [rset_2, setL_s]
theorem la_addExaminer (hT : Tp N K E P S L m) (hN : N + 1 ≤ 1048576) (hL : ∀ M, Top (N + 1) M → Lp M) : Wq g (d + 8) ML_addExaminer 1 6 0 [some (pO 10 8 0), some (pO 40 10 0)] [] m (fun o m9 c9 n9 => c9 = 0 ∧ n9 = 0 ∧ cI (fun r h => Wp g (d + 8) MX5_addExaminer 0 [some (pO 20 9 0)] [] h (cI (aF Lp Y r))) o m9) := by
  obtain ⟨t1, t2, t3, t4, t5, t6, t7, t8, t9, t10, t11, t12, t13⟩ := hT
  have hT : Tp N K E P S L m := ⟨t1, t2, t3, t4, t5, t6, t7, t8, t9, t10, t11, t12, t13⟩
  refine sgL_addExaminer (co_addExaminer (K := K) (E := E) (P := P) (S := S) t1 t3 t4 t6 (fun ok => ⟨rfl, rfl, cX_1 ⟨rfl, rfl, ?_⟩⟩) (fun ok m1 τ' s a => ⟨rfl, rfl, ⟨rfl, rfl, ?_⟩⟩))
  · refine mo_addExaminer t2 t1.1 (by omega) t5 t6 (fun _ => ⟨rfl, rfl, ?_⟩) (fun ok' => absurd ok' (by omega))
    obtain ⟨z1, z2⟩ := la_no (k := 1) (v := 0) hT hN
    exact aF_e z2 (by decide) (hL _ z1)
  · have e9 : (setL (rset m1 0 τ') 0 (Int32.toInt64 (nI E))).1 9 = m.1 9 := by rw [setL_1, rset_n (by decide), s.2.1 9 (by decide)]
    refine mo_addExaminer (m := setL (rset m1 0 τ') 0 (Int32.toInt64 (nI E))) (τ := m.1 0) (K := K) (E := E) (P := P) (S := S) (by rw [e9]; exact t2) t1.1 (by omega) (by rw [e9]; exact t5) t6 (fun ok' => absurd ok' (by omega)) (fun ok' μ μ' hs f r => ⟨rfl, rfl, ?_⟩)
    obtain ⟨z1, z2, z3⟩ := la_ge hT hN s a (Vv_give (fAddE0_Vv t1 ok)) hs f r
    exact aF_0 z2 z3 (hL _ z1)
theorem la_addPupil (hT : Tp N K E P S L m) (hN : N + 1 ≤ 1048576) (hL : ∀ M, Top (N + 1) M → Lp M) : Wq g (d + 8) ML_addPupil 1 6 0 [some (pO 10 8 0), some (pO 40 10 0)] [] m (fun o m9 c9 n9 => c9 = 0 ∧ n9 = 0 ∧ cI (fun r h => Wp g (d + 8) MX5_addPupil 0 [some (pO 20 9 0)] [] h (cI (aF Lp Y r))) o m9) := by
  obtain ⟨t1, t2, t3, t4, t5, t6, t7, t8, t9, t10, t11, t12, t13⟩ := hT
  have hT : Tp N K E P S L m := ⟨t1, t2, t3, t4, t5, t6, t7, t8, t9, t10, t11, t12, t13⟩
  refine sgL_addPupil (co_addPupil (K := K) (E := E) (P := P) (S := S) t1 t3 t4 t6 (fun ok => ⟨rfl, rfl, cX_1 ⟨rfl, rfl, ?_⟩⟩) (fun ok m1 s => ⟨rfl, rfl, ⟨rfl, rfl, ?_⟩⟩))
  · refine mo_addPupil t2 t1.1 t5 t6 (fun _ => ⟨rfl, rfl, ?_⟩) (fun ok' => absurd ok' (by omega))
    obtain ⟨z1, z2⟩ := la_no (k := 1) (v := 0) hT hN
    exact aF_e z2 (by decide) (hL _ z1)
  · have e9 : (setL (rset m1 0 (fAddP P (m.1 0))) 0 (Int32.toInt64 (nI P))).1 9 = m.1 9 := by rw [setL_1, rset_n (by decide), s.2.1 9 (by decide)]
    refine mo_addPupil (m := setL (rset m1 0 (fAddP P (m.1 0))) 0 (Int32.toInt64 (nI P))) (τ := m.1 0) (K := K) (E := E) (P := P) (S := S) (by rw [e9]; exact t2) t1.1 (by rw [e9]; exact t5) t6 (fun ok' => absurd ok' (by omega)) (fun ok' μ μ' hs f r => ⟨rfl, rfl, ?_⟩)
    obtain ⟨z1, z2, z3⟩ := la_ge hT hN s Ap_rfl (fAddP_Vv t1 ok) hs f r
    exact aF_0 z2 z3 (hL _ z1)
theorem la_set {V V2 : Prop} (hv : V) (hv2 : V2) (hT : Tp N K E P S L m) (hN : N + 1 ≤ 1048576) (hL : ∀ M, Top (N + 1) M → Lp M) : Wq g (d + 8) ML_set 1 6 0 [some (pO 10 8 0), some (pI x), some (pI y), some (pO 40 10 0)] [] m (fun o m9 c9 n9 => c9 = 0 ∧ n9 = 0 ∧ cI (fun r h => V ∧ (V2 ∧ Wp g (d + 8) MX5_set 0 [some (pO 20 9 0), some (pI x), some (pI y)] [] h (cI (aF Lp Y r)))) o m9) := by
  obtain ⟨t1, t2, t3, t4, t5, t6, t7, t8, t9, t10, t11, t12, t13⟩ := hT
  have hT : Tp N K E P S L m := ⟨t1, t2, t3, t4, t5, t6, t7, t8, t9, t10, t11, t12, t13⟩
  have hE := t1.1.E4
  refine sgL_set (co_set (S := S) t3 t4 t6 (fun q => ⟨rfl, rfl, cX_3 ⟨rfl, rfl, hv, hv2, ?_⟩⟩) (fun k hk e q => ⟨rfl, rfl, cX_2 ⟨rfl, rfl, hv, hv2, ?_⟩⟩) (fun k hk e q m1 s => ⟨rfl, rfl, ⟨rfl, rfl, hv, hv2, ?_⟩⟩))
  · refine mo_set t2 hE t5 t6 (fun _ => ⟨rfl, rfl, ?_⟩) (fun p hp e => absurd ⟨p, hp, e⟩ q) (fun p hp e => absurd ⟨p, hp, e⟩ q)
    obtain ⟨z1, z2⟩ := la_no (k := 1) (v := 0) hT hN
    exact aF_e z2 (by decide) (hL _ z1)
  · refine mo_set t2 hE t5 t6 (fun q => absurd ⟨k, hk, e⟩ q) (fun p' hp' e' ok' => ⟨rfl, rfl, ?_⟩) (fun p' hp' e' ok' => ?_)
    · obtain ⟨z1, z2⟩ := la_no (k := 2) (v := 0) hT hN
      exact aF_e z2 (by decide) (hL _ z1)
    · have : p' = k := nI_i (by omega) (by omega) (by rw [← e', ← e])
      subst this
      exact absurd ok' q
  · have e9 : (setL (rset m1 0 (tI (m.1 0) 1 0 k y)) 0 (Int32.toInt64 (m.1 0 1 0 k))).1 9 = m.1 9 := by rw [setL_1, rset_n (by decide), s.2.1 9 (by decide)]
    refine mo_set (m := setL (rset m1 0 (tI (m.1 0) 1 0 k y)) 0 (Int32.toInt64 (m.1 0 1 0 k))) (τ := m.1 0) (E := E) (P := P) (S := S) (by rw [e9]; exact t2) hE (by rw [e9]; exact t5) t6 (fun q => absurd ⟨k, hk, e⟩ q) (fun p' hp' e' ok' => ?_) (fun p' hp' e' ok' μ hs r => ⟨rfl, rfl, ?_⟩)
    · have : p' = k := nI_i (by omega) (by omega) (by rw [← e', ← e])
      subst this
      exact absurd q ok'
    · have : p' = k := nI_i (by omega) (by omega) (by rw [← e', ← e])
      subst this
      obtain ⟨z1, z2, z3⟩ := la_ge hT hN s Ap_rfl (st_Vv t1 (k := p') y q.1) hs Fr_21 r
      exact aF_0 z2 z3 (hL _ z1)
end C1
