/-! THE LAW: run, undo, and what no helper calls -/
section C3
variable {g : GG} {d c n : Nat} {m : PM} {Q : Ou → PM → Nat → Nat → Prop} {N K E P S L : Nat} {Lp Y : PM → Prop} {x y z : Int32}
theorem la_run (hT : Tp N K E P S L m) (hN : N + 1 ≤ 1048576) (hL : ∀ M, Top (N + 1) M → Lp M) : Wq g (d + 8) ML_run 1 6 0 [some (pO 10 8 0), some (pO 40 10 0)] [] m (fun o m9 c9 n9 => c9 = 0 ∧ n9 = 0 ∧ cI (fun r h => Wp g (d + 8) MX5_run 0 [some (pO 20 9 0)] [] h (cI (aF Lp Y r))) o m9) := by
  obtain ⟨t1, t2, t3, t4, t5, t6, t7, t8, t9, t10, t11, t12, t13⟩ := hT
  have hT : Tp N K E P S L m := ⟨t1, t2, t3, t4, t5, t6, t7, t8, t9, t10, t11, t12, t13⟩
  have hpl := PR_len (T := m.1 8 13 0) (L := L) (f := 60) (i := 0) (Nat.zero_le _)
  refine sgL_run (co_run (K := K) (E := E) (P := P) (S := S) (L := L) t8 t10 t1 (by omega) t3 t4 t6 (fun e σ f1 f2 => ⟨rfl, rfl, cX_2 ⟨rfl, rfl, ?_⟩⟩) (fun e σ f1 f2 m1 s τ' a => ⟨rfl, rfl, ⟨rfl, rfl, ?_⟩⟩))
  · have e9 : (rset m 8 σ).1 9 = m.1 9 := rset_n (by decide)
    have eT : (rset m 8 σ).1 9 24 0 = m.1 8 13 0 := by rw [e9, t11]
    refine mo_run (m := rset m 8 σ) (τ := m.1 0) (K := K) (E := E) (P := P) (S := S) (L := L) (by rw [e9]; exact t9) t10 (by rw [e9]; exact t2) t1 (by omega) (by rw [e9]; exact t5) t6 (fun _ μ i w s => ⟨rfl, rfl, ?_⟩) (fun e' => ?_)
    · rw [e9] at s
      refine aF_e (by rw [rset_s, tI_s]) (by decide) (hL _ ?_)
      exact Top_l hT (fun r h1 h2 => by rw [rset_n (by omega), rset_n (by omega)]) (fun t ht => by rw [rset_n (by decide), rset_s, f1 t (by omega) (by omega) (by omega) (by omega)]) (by rw [rset_n (by decide), rset_s]; exact f2) (fun t ht => by rw [rset_s, tI_t (by omega), s.1 t (by omega) (by omega)]) (by rw [rset_s, tI_k (by decide), s.2.1 4 (by decide) (by decide)]) (by rw [rset_s, tI_k (by decide), s.2.1 6 (by decide) (by decide)]) (fun j _ => by rw [rset_s, tI_t (by decide), s.1 21 (by decide) (by decide)]) hN
    · rw [eT, e] at e'
      exact absurd e' Bool.false_ne_true
  · have e9 : ∀ v, (setL (rset (rset m1 0 τ') 8 (tI (m1.1 8) 12 0 1 0)) 0 v).1 9 = m.1 9 := fun v => by rw [setL_1, rset_n (by decide), rset_n (by decide), s.2.1 9 (by decide), rset_n (by decide)]
    have eT : ∀ v, (setL (rset (rset m1 0 τ') 8 (tI (m1.1 8) 12 0 1 0)) 0 v).1 9 24 0 = m.1 8 13 0 := fun v => by rw [e9, t11]
    refine mo_run (m := setL (rset (rset m1 0 τ') 8 (tI (m1.1 8) 12 0 1 0)) 0 _) (τ := m.1 0) (K := K) (E := E) (P := P) (S := S) (L := L) (by rw [e9]; exact t9) t10 (by rw [e9]; exact t2) t1 (by omega) (by rw [e9]; exact t5) t6 (fun e' => ?_) (fun _ μ0 i w μ μ' s0 s1 s2 s3 => ⟨rfl, rfl, ?_⟩)
    · rw [eT, e] at e'
      exact absurd e'.symm Bool.false_ne_true
    · rw [eT] at s3
      rw [eT]
      rw [e9] at s0
      refine aF_0 ?_ (by rw [rset_2, setL_s]) (hL _ ?_)
      · rw [rset_s, tI_k (by decide), s2.2 0 (by decide) (by decide), s1.2.1 0 (by decide), tI_s]
      · have r0 : (rset m 8 σ).1 0 = m.1 0 := rset_n (by decide)
        have r9 : (rset m 8 σ).1 9 = m.1 9 := rset_n (by decide)
        refine Top_w (m := rset m 8 σ) (M := rset (setL (rset (rset m1 0 τ') 8 (tI (m1.1 8) 12 0 1 0)) 0 _) 9 (tI μ' 20 0 6 0)) (K := K) (E := E) (P := P) (S := S) (K2 := K + 4 * (PR (m.1 8 13 0) L 60 0).2.2.length) (L2 := 0) (μ0 := tI μ0 20 0 0 0) (μ := μ) (by rw [r0]; exact t1) (by rw [r0, r9]; exact t2) t6 (fun i hi => ?_) s s1 (by rw [tI_t (by decide), s0.1 23 (by decide) (by decide), r9]) (by rw [tI_t (by decide), s0.1 21 (by decide) (by decide), r9]) (by rw [tI_t (by decide), s0.1 24 (by decide) (by decide), rset_s, f1 13 (by decide) (by decide) (by decide) (by decide), t11]) rset_s (by rw [tI_t (by decide), s2.1 23 (by decide) (by decide) (by decide) (by decide)]) (by rw [tI_t (by decide), s2.1 24 (by decide) (by decide) (by decide) (by decide)]) (by rw [tI_k (by decide), s2.2 4 (by decide) (by decide)]) (by rw [tI_t (by decide)]; exact Rel_ap a s3) (by rw [rset_n (by decide), setL_1, rset_n (by decide), rset_s]) (Vv_ap a (oRun_Vv t1 (fun o ho => (hpl.2.1 o ho).2.2.2) (by omega))) (fun r h1 h2 => by rw [rset_n (by omega), setL_1, rset_n (by omega), rset_n (by omega)]) (fun t ht => by rw [rset_n (by decide), setL_1, rset_s, tI_t ht]) (by rw [rset_n (by decide), setL_1, rset_s, tI_s]; rfl) tI_s (by decide) (by omega) (by omega) hN
        obtain ⟨E', P', v, r⟩ := t7 i hi
        have es : sv (rset m 8 σ) i = sv m i := by
          unfold sv
          rw [rset_s, f1 11 (by decide) (by decide) (by decide) (by decide)]
          have := t3.1 i (by omega)
          exact rset_n (by omega)
        rw [es, r9]
        exact ⟨E', P', v, r⟩
theorem la_undo (hT : Tp N K E P S L m) (hN : N + 1 ≤ 1048576) (hL : ∀ M, Top (N + 1) M → Lp M) : Wq g (d + 8) ML_undo 1 6 0 [some (pO 10 8 0), some (pO 40 10 0)] [] m (fun o m9 c9 n9 => c9 = 0 ∧ n9 = 0 ∧ cI (fun r h => Wp g (d + 8) MX5_undo 0 [some (pO 20 9 0)] [] h (cI (aF Lp Y r))) o m9) := by
  obtain ⟨t1, t2, t3, t4, t5, t6, t7, t8, t9, t10, t11, t12, t13⟩ := hT
  have hT : Tp N K E P S L m := ⟨t1, t2, t3, t4, t5, t6, t7, t8, t9, t10, t11, t12, t13⟩
  refine sgL_undo (co_undo (S := S) t3 t4 t6 (fun e => ⟨rfl, rfl, cX_1 ⟨rfl, rfl, ?_⟩⟩) (fun e τ' cp => ⟨rfl, rfl, ⟨rfl, rfl, ?_⟩⟩))
  · exact mo_undo t5 t6 (fun _ => ⟨rfl, rfl, la_k hT hN hL (by decide)⟩) (fun e' => absurd e' (by omega))
  · have e9 : ∀ v, (setL (rset (rset m 8 (tI (m.1 8) 10 0 3 (nI (S - 1)))) 0 τ') 0 v).1 9 = m.1 9 := fun v => by rw [setL_1, rset_n (by decide), rset_n (by decide)]
    refine mo_undo (m := setL (rset (rset m 8 (tI (m.1 8) 10 0 3 (nI (S - 1)))) 0 τ') 0 _) (S := S) (by rw [e9]; exact t5) t6 (fun e' => absurd e' (by omega)) (fun _ μ f1 f2 f3 f4 f5 => ⟨rfl, rfl, ?_⟩)
    rw [e9] at f1 f2 f5
    obtain ⟨E', P', v, r⟩ := t7 (S - 1) (by omega)
    refine aF_0 (by rw [rset_s, f3]) (by rw [rset_2, setL_s]) (hL _ ?_)
    have e8 : ∀ w, (rset (setL (rset (rset m 8 (tI (m.1 8) 10 0 3 (nI (S - 1)))) 0 τ') 0 w) 9 μ).1 8 = tI (m.1 8) 10 0 3 (nI (S - 1)) := fun w => by rw [rset_n (by decide), setL_1, rset_n (by decide), rset_s]
    have e0 : ∀ w, (rset (setL (rset (rset m 8 (tI (m.1 8) 10 0 3 (nI (S - 1)))) 0 τ') 0 w) 9 μ).1 0 = τ' := fun w => by rw [rset_n (by decide), setL_1, rset_s]
    have es : ∀ w i, i < 6 → sv (rset (setL (rset (rset m 8 (tI (m.1 8) 10 0 3 (nI (S - 1)))) 0 τ') 0 w) 9 μ) i = sv m i := fun w i hi => by
      unfold sv
      rw [e8, tI_t (by decide)]
      have := t3.1 i hi
      rw [rset_n (by omega), setL_1, rset_n (by omega), rset_n (by omega)]
    refine ⟨K, E', P', S - 1, L, by rw [e0]; exact Cp_Vv cp v, ?_, ?_, by rw [e8, tI_s], by rw [rset_s, f4], by omega, fun i hi => ?_, by rw [e8, tI_t (by decide)]; exact t8, by rw [rset_s, f2 6 (by decide) (by decide)]; exact t9, t10, by rw [e8, tI_t (by decide), rset_s, f1 24 (by decide) (by decide), t11], by omega, hN⟩
    · rw [e0, rset_s]
      exact Rel_fn v.1.E4 v.1.P12 (Cp_Rel cp v.1.E4 v.1.P12 r) fun j hj => f5 j hj
    · unfold RF at t3 ⊢
      rw [e8, tI_t (by decide)]
      exact t3
    · rw [es _ i (by omega), rset_s, f1 23 (by decide) (by decide)]
      exact t7 i (by omega)
theorem la_clear (hT : Tp N K E P S L m) (hN : N + 1 ≤ 1048576) {F G : PM → Prop} (hL : ∀ M, Top (N + 1) M → F M) : Wp g (d + 8) MX4_clearBuffer 0 [some (pO 10 8 0)] [] m (cI fun r1 m2 => Wp g (d + 8) MX5_clearBuffer 0 [some (pO 20 9 0)] [] m2 (cI fun r3 m4 => ((r1 = r3 → F m4) ∧ (¬ r1 = r3 → G m4)))) := by
  obtain ⟨t1, t2, t3, t4, t5, t6, t7, t8, t9, t10, t11, t12, t13⟩ := hT
  refine co_clearBuffer (L := L) t8 ⟨rfl, rfl, ?_⟩
  dsimp only [cI]
  have e9 : (rset m 8 (tI (m.1 8) 12 0 1 0)).1 9 = m.1 9 := rset_n (by decide)
  refine mo_clearBuffer (L := L) (by rw [e9]; exact t9) ⟨rfl, rfl, ?_⟩
  rw [e9]
  refine ⟨fun _ => hL _ ?_, fun q => absurd rfl q⟩
  have e8 : (rset (rset m 8 (tI (m.1 8) 12 0 1 0)) 9 (tI (tI (m.1 9) 20 0 0 0) 20 0 6 0)).1 8 = tI (m.1 8) 12 0 1 0 := by rw [rset_n (by decide), rset_s]
  have e0 : ∀ r, r < 8 → (rset (rset m 8 (tI (m.1 8) 12 0 1 0)) 9 (tI (tI (m.1 9) 20 0 0 0) 20 0 6 0)).1 r = m.1 r := fun r hr => by rw [rset_n (by omega), rset_n (by omega)]
  refine ⟨K, E, P, S, 0, by rw [e0 0 (by decide)]; exact t1, by rw [e0 0 (by decide), rset_s, tI_t (by decide), tI_t (by decide)]; exact t2, ?_, by rw [e8, tI_t (by decide)]; exact t4, by rw [rset_s, tI_k (by decide), tI_k (by decide)]; exact t5, t6, fun i hi => ?_, by rw [e8, tI_s]; rfl, by rw [rset_s, tI_s]; rfl, by decide, by rw [e8, tI_t (by decide), rset_s, tI_t (by decide), tI_t (by decide), t11], by omega, hN⟩
  · unfold RF at t3 ⊢
    rw [e8, tI_t (by decide)]
    exact t3
  · have es : sv (rset (rset m 8 (tI (m.1 8) 12 0 1 0)) 9 (tI (tI (m.1 9) 20 0 0 0) 20 0 6 0)) i = sv m i := by
      unfold sv
      rw [e8, tI_t (by decide)]
      exact e0 _ (t3.1 i (by omega)).2
    rw [es, rset_s, tI_t (by decide), tI_t (by decide)]
    exact t7 i hi
theorem la_first (hT : Tp N K E P S L m) (hN : N + 1 ≤ 1048576) {F G : PM → Prop} (hL : ∀ M, Top (N + 1) M → F M) : Wp g (d + 8) MX4_firstError 0 [some (pO 10 8 0)] [] m (cI fun r1 m2 => Wp g (d + 8) MX5_firstError 0 [some (pO 20 9 0)] [] m2 (cI fun r3 m4 => ((r1 = r3 → F m4) ∧ (¬ r1 = r3 → G m4)))) := by
  obtain ⟨t1, t2, t3, t4, t5, t6, t7, t8, t9, t10, t11, t12, t13⟩ := hT
  have hT : Tp N K E P S L m := ⟨t1, t2, t3, t4, t5, t6, t7, t8, t9, t10, t11, t12, t13⟩
  refine co_firstError (L := L) t8 t10 fun σ f1 f2 => ⟨rfl, rfl, ?_⟩
  dsimp only [cI]
  have e9 : (rset m 8 σ).1 9 = m.1 9 := rset_n (by decide)
  have eT : (rset m 8 σ).1 9 24 0 = m.1 8 13 0 := by rw [e9, t11]
  refine mo_firstError (L := L) (by rw [e9]; exact t9) t10 (fun μ w s => ⟨rfl, rfl, ?_⟩) (fun h => PR_end (Nat.zero_le _) h)
  rw [eT]
  rw [e9] at s
  refine ⟨fun _ => hL _ ?_, fun q => absurd rfl q⟩
  exact Top_l hT (fun r h1 h2 => by rw [rset_n (by omega), rset_n (by omega)]) (fun t ht => by rw [rset_n (by decide), rset_s, f1 t (by omega) (by omega) (by omega) (by omega)]) (by rw [rset_n (by decide), rset_s]; exact f2) (fun t ht => by rw [rset_s, s.1 t (by omega) (by omega), tI_t (by omega)]) (by rw [rset_s, s.2.1 4 (by decide) (by decide), tI_k (by decide)]) (by rw [rset_s, s.2.1 6 (by decide) (by decide), tI_k (by decide)]) (fun j _ => by rw [rset_s, s.1 21 (by decide) (by decide), tI_t (by decide)]) hN
theorem la_share (hT : Tp N K E P S L m) (hN : N + 1 ≤ 1048576) {F G H J : PM → Prop} (hL : ∀ M, Top (N + 1) M → F M) : Wp g (d + 8) MX4_passedShare 0 [some (pO 10 8 0)] [] m (cD fun r1 m2 => Wp g (d + 8) MX5_passedShare 0 [some (pO 20 9 0)] [] m2 (cD fun r3 m4 => (((Op.cmpValue (FP.dcmp r1 r3) CmpOp.l) = 0 → F m4) ∧ (¬ (Op.cmpValue (FP.dcmp r1 r3) CmpOp.l) = 0 → (((Op.cmpValue (FP.dcmp r1 r1) CmpOp.l) = 0 → G m4) ∧ (¬ (Op.cmpValue (FP.dcmp r1 r1) CmpOp.l) = 0 → ((¬ (Op.cmpValue (FP.dcmp r3 r3) CmpOp.l) = 0 → H m4) ∧ ((Op.cmpValue (FP.dcmp r3 r3) CmpOp.l) = 0 → J m4)))))))) := by
  obtain ⟨t1, t2, t3, t4, t5, t6, t7, t8, t9, t10, t11, t12, t13⟩ := hT
  have hT : Tp N K E P S L m := ⟨t1, t2, t3, t4, t5, t6, t7, t8, t9, t10, t11, t12, t13⟩
  obtain ⟨V, W, e1, e2, h1, h2⟩ := t1.2.2.2
  refine co_passedShare' t1 e1 e2 h1 (by omega) ⟨rfl, rfl, ?_⟩
  dsimp only [cD]
  refine sgX5_passedShare ?_
  refine mo_share (m := setI m 20 9 0 0 0) (τ := m.1 0) (K := K) (E := E) (P := P) (by rw [flR]; exact t2) t1.1 e1 e2 h1 (by omega) ⟨rfl, rfl, rfl, rfl, ?_⟩
  dsimp only [cD]
  have es := sh_self h1 (show W < 2 ^ 31 by omega)
  refine ⟨fun _ => hL _ (la_no (k := 0) (v := 0) hT hN).1, fun q => absurd (by rw [es]; rfl) q⟩
theorem la_digest (hT : Tp N K E P S L m) (hN : N + 1 ≤ 1048576) {F G : PM → Prop} (hL : ∀ M, Top (N + 1) M → F M) : Wp g (d + 9) MX4_digest 0 [some (pO 10 8 0)] [] m (cL fun r1 m2 => Wp g (d + 9) MX5_digest 0 [some (pO 20 9 0)] [] m2 (cL fun r3 m4 => (((lg_cmp r1 r3) = 0 → F m4) ∧ (¬ (lg_cmp r1 r3) = 0 → G m4)))) := by
  obtain ⟨t1, t2, t3, t4, t5, t6, t7, t8, t9, t10, t11, t12, t13⟩ := hT
  have hT : Tp N K E P S L m := ⟨t1, t2, t3, t4, t5, t6, t7, t8, t9, t10, t11, t12, t13⟩
  obtain ⟨V, W, e1, e2, h1, h2⟩ := t1.2.2.2
  obtain ⟨B, b1, b2⟩ := bits_both h1 (show W < 2 ^ 31 by omega)
  refine co_digest (B := B) (S := S) (L := L) t1 (by omega) t4 t8 t10 e1 e2 h1 (by omega) b1 fun σ => ⟨rfl, rfl, ?_⟩
  dsimp only [cL]
  have e9 : (rset m 1 σ).1 9 = m.1 9 := rset_n (by decide)
  have e24 : (rset m 1 σ).1 9 24 0 = m.1 8 13 0 := by rw [e9, t11]
  refine mo_digest (m := rset m 1 σ) (τ := m.1 0) (B := B) (S := S) (L := L) (K := K) (by rw [e9]; exact t2) t1 (by omega) (by rw [e9]; exact t5) (by rw [e9]; exact t9) t10 e1 e2 h1 (by omega) b2 fun M k => ⟨rfl, rfl, ?_⟩
  dsimp only [cL]
  rw [e24]
  refine ⟨fun _ => hL _ ?_, fun q => absurd (lg_self _) q⟩
  have f9 : (setI (rset m 1 σ) 20 9 0 0 0).1 9 = tI (m.1 9) 20 0 0 0 := by rw [setI_eq, rset_s, e9]
  obtain ⟨k1, k2, k3, k4, k5⟩ := k
  rw [f9] at k2 k3
  have k8 : M.1 8 = m.1 8 := by rw [k1 8 (by decide), setI_eq, rset_n (by decide), rset_n (by decide)]
  refine Top_l hT (fun r h1 h2 => by rw [k1 r (by omega), setI_eq, rset_n (by omega), rset_n h1]) (fun t _ => by rw [k8]) (by rw [k8]; exact t8) (fun t ht => by rw [k2 t (by omega) (by omega) (by omega) (by omega) (by omega) (by omega) (by omega), tI_t (by omega)]) (by rw [k2 20 (by decide) (by decide) (by decide) (by decide) (by decide) (by decide) (by decide), tI_k (by decide)]) (by rw [k2 20 (by decide) (by decide) (by decide) (by decide) (by decide) (by decide) (by decide), tI_k (by decide)]) (fun j hj => by rw [k3 j hj, tI_t (by decide)]) hN
theorem Top_up (h : Top N m) (hN : N + 1 ≤ 1048576) : Top (N + 1) m := by
  obtain ⟨K, E, P, S, L, t1, t2, t3, t4, t5, t6, t7, t8, t9, t10, t11, t12, t13⟩ := h
  exact ⟨K, E, P, S, L, t1, t2, t3, t4, t5, t6, t7, t8, t9, t10, t11, by omega, hN⟩
end C3
