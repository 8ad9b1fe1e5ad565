/-! THE LAW: looks, the text, undo -/
theorem PR_end {T : Nat → Int32} {L : Nat} : ∀ {f i : Nat}, i ≤ L → (PR T L f i).1 = true → (PR T L f i).2.1 = L
  | 0, i, _, h => absurd h Bool.false_ne_true
  | f + 1, i, hi, h => by
    have hp := PO_ok (T := T) hi
    rw [PR_s] at h ⊢
    by_cases q : (PO T L i).1 = true
    · rw [if_pos q] at h ⊢
      by_cases q2 : L ≤ (PO T L i).2.1
      · rw [if_pos q2]
        show (PO T L i).2.1 = L
        omega
      · rw [if_neg q2] at h ⊢
        by_cases q3 : ch T L (PO T L i).2.1 = 59
        · rw [if_pos q3] at h ⊢
          exact PR_end (f := f) (by omega) h
        · rw [if_neg q3] at h
          exact absurd h Bool.false_ne_true
    · rw [if_neg q] at h
      exact absurd h Bool.false_ne_true
section C2
variable {g : GG} {d : Nat} {m : PM} {N K E P S L : Nat} {Lp Y : PM → Prop} {x y z : Int32}
theorem Tp_L {v : Int64} (h : Tp N K E P S L m) : Tp N K E P S L (setL m 0 v) := h
theorem la_k {k r5 : Int32} (hT : Tp N K E P S L m) (hN : N + 1 ≤ 1048576) (hL : ∀ M, Top (N + 1) M → Lp M) (hk : ¬ k = 0) : aF Lp Y k r5 (setI m 20 9 0 0 k) := by
  obtain ⟨z1, z2⟩ := la_no (k := k) (v := 0) hT hN
  exact aF_e z2 hk (hL _ z1)
theorem la_y {r5 : Int32} (hT : Tp N K E P S L m) (hN : N + 1 ≤ 1048576) (hL : ∀ M, Top (N + 1) M → Lp M) : aF Lp Y 0 r5 (setI (setL m 0 (Int32.toInt64 r5)) 20 9 0 0 0) := by
  obtain ⟨z1, z2⟩ := la_no (m := setL m 0 (Int32.toInt64 r5)) (k := 0) (v := 0) (Tp_L hT) hN
  exact aF_0 z2 (by rw [setI_eq, rset_2, setL_s]) (hL _ z1)

theorem la_pupil {V V2 : Prop} (hV : V) (hV2 : V2) (hT : Tp N K E P S L m) (hN : N + 1 ≤ 1048576) (hL : ∀ M, Top (N + 1) M → Lp M) : Wq g (d + 8) ML_pupil 1 6 0 [some (pO 10 8 0), some (pI x), some (pI y), some (pO 40 10 0)] [] m (fun o m9 c9 n9 => c9 = 0 ∧ n9 = 0 ∧ cI (fun r h => V ∧ (V2 ∧ (Wp g (d + 8) MX5_pupil 0 [some (pO 20 9 0), some (pI x), some (pI y)] [] h (cI (aF Lp Y r))))) o m9) := by
  obtain ⟨t1, t2, t3, t4, t5, t6, t7, t8, t9, t10, t11, t12, t13⟩ := hT
  have hT : Tp N K E P S L m := ⟨t1, t2, t3, t4, t5, t6, t7, t8, t9, t10, t11, t12, t13⟩
  have hP := t1.1.P12
  have hE := t1.1.E4
  refine sgL_pupil (co_pupil (K := K) (E := E) (P := P) t1 (fun q => ⟨rfl, rfl, cX_3 ⟨rfl, rfl, hV, hV2, ?_⟩⟩) (fun p hp e q => ⟨rfl, rfl, cX_2 ⟨rfl, rfl, hV, hV2, ?_⟩⟩) (fun p w hp e hw ew => ⟨rfl, rfl, ⟨rfl, rfl, hV, hV2, ?_⟩⟩))
  · exact mo_pupil t2 t1.1 (by omega) (fun _ => ⟨rfl, rfl, la_k hT hN hL (by decide)⟩) (fun p hp e => absurd ⟨p, hp, e⟩ q) (fun p w hp e => absurd ⟨p, hp, e⟩ q)
  · exact mo_pupil t2 t1.1 (by omega) (fun q' => absurd ⟨p, hp, e⟩ q') (fun p' hp' e' _ => ⟨rfl, rfl, la_k hT hN hL (by decide)⟩) (fun p' w hp' e' hw ew => absurd ⟨w, hw, ew⟩ q)
  · refine mo_pupil (m := setL m 0 _) (τ := m.1 0) (K := K) (E := E) (P := P) t2 t1.1 (by omega) (fun q' => absurd ⟨p, hp, e⟩ q') (fun p' hp' e' q' => absurd ⟨w, hw, ew⟩ q') (fun p' w' hp' e' hw' ew' => ⟨rfl, rfl, ?_⟩)
    have a1 : p' = p := nI_i (by omega) (by omega) (by rw [← e', ← e])
    have a2 : w' = w := nI_i (by omega) (by omega) (by rw [← ew', ← ew])
    rw [a1, a2]
    exact la_y hT hN hL
theorem la_examiner {V V2 : Prop} (hV : V) (hV2 : V2) (hT : Tp N K E P S L m) (hN : N + 1 ≤ 1048576) (hL : ∀ M, Top (N + 1) M → Lp M) : Wq g (d + 8) ML_examiner 1 6 0 [some (pO 10 8 0), some (pI x), some (pI y), some (pO 40 10 0)] [] m (fun o m9 c9 n9 => c9 = 0 ∧ n9 = 0 ∧ cI (fun r h => V ∧ (V2 ∧ (Wp g (d + 8) MX5_examiner 0 [some (pO 20 9 0), some (pI x), some (pI y)] [] h (cI (aF Lp Y r))))) o m9) := by
  obtain ⟨t1, t2, t3, t4, t5, t6, t7, t8, t9, t10, t11, t12, t13⟩ := hT
  have hT : Tp N K E P S L m := ⟨t1, t2, t3, t4, t5, t6, t7, t8, t9, t10, t11, t12, t13⟩
  have hP := t1.1.P12
  have hE := t1.1.E4
  refine sgL_examiner (co_examiner (K := K) (E := E) (P := P) t1 (fun q => ⟨rfl, rfl, cX_3 ⟨rfl, rfl, hV, hV2, ?_⟩⟩) (fun p hp e q => ⟨rfl, rfl, cX_2 ⟨rfl, rfl, hV, hV2, ?_⟩⟩) (fun p w hp e hw ew => ⟨rfl, rfl, ⟨rfl, rfl, hV, hV2, ?_⟩⟩))
  · exact mo_examiner t2 t1.1 (fun _ => ⟨rfl, rfl, la_k hT hN hL (by decide)⟩) (fun p hp e => absurd ⟨p, hp, e⟩ q) (fun p w hp e => absurd ⟨p, hp, e⟩ q)
  · exact mo_examiner t2 t1.1 (fun q' => absurd ⟨p, hp, e⟩ q') (fun p' hp' e' _ => ⟨rfl, rfl, la_k hT hN hL (by decide)⟩) (fun p' w hp' e' hw ew => absurd ⟨w, hw, ew⟩ q)
  · refine mo_examiner (m := setL m 0 _) (τ := m.1 0) (K := K) (E := E) (P := P) t2 t1.1 (fun q' => absurd ⟨p, hp, e⟩ q') (fun p' hp' e' q' => absurd ⟨w, hw, ew⟩ q') (fun p' w' hp' e' hw' ew' => ⟨rfl, rfl, ?_⟩)
    have a1 : p' = p := nI_i (by omega) (by omega) (by rw [← e', ← e])
    have a2 : w' = w := nI_i (by omega) (by omega) (by rw [← ew', ← ew])
    rw [a1, a2]
    exact la_y hT hN hL
theorem la_earliest {V V2 : Prop} (hV : V) (hV2 : V2) (hT : Tp N K E P S L m) (hN : N + 1 ≤ 1048576) (hL : ∀ M, Top (N + 1) M → Lp M) : Wq g (d + 8) ML_earliest 1 6 0 [some (pO 10 8 0), some (pI x), some (pI y), some (pO 40 10 0)] [] m (fun o m9 c9 n9 => c9 = 0 ∧ n9 = 0 ∧ cI (fun r h => V ∧ (V2 ∧ (Wp g (d + 8) MX5_earliest 0 [some (pO 20 9 0), some (pI x), some (pI y)] [] h (cI (aF Lp Y r))))) o m9) := by
  obtain ⟨t1, t2, t3, t4, t5, t6, t7, t8, t9, t10, t11, t12, t13⟩ := hT
  have hT : Tp N K E P S L m := ⟨t1, t2, t3, t4, t5, t6, t7, t8, t9, t10, t11, t12, t13⟩
  have hP := t1.1.P12
  have hE := t1.1.E4
  refine sgL_earliest (co_earliest (K := K) (E := E) (P := P) t1 (fun q => ⟨rfl, rfl, cX_3 ⟨rfl, rfl, hV, hV2, ?_⟩⟩) (fun p hp e q => ⟨rfl, rfl, cX_2 ⟨rfl, rfl, hV, hV2, ?_⟩⟩) (fun p w hp e hw ew => ⟨rfl, rfl, ⟨rfl, rfl, hV, hV2, ?_⟩⟩))
  · exact mo_earliest t2 t1.1 (fun _ => ⟨rfl, rfl, la_k hT hN hL (by decide)⟩) (fun p hp e => absurd ⟨p, hp, e⟩ q) (fun p w hp e => absurd ⟨p, hp, e⟩ q)
  · exact mo_earliest t2 t1.1 (fun q' => absurd ⟨p, hp, e⟩ q') (fun p' hp' e' _ => ⟨rfl, rfl, la_k hT hN hL (by decide)⟩) (fun p' w hp' e' hw ew => absurd ⟨w, hw, ew⟩ q)
  · refine mo_earliest (m := setL m 0 _) (τ := m.1 0) (K := K) (E := E) (P := P) t2 t1.1 (fun q' => absurd ⟨p, hp, e⟩ q') (fun p' hp' e' q' => absurd ⟨w, hw, ew⟩ q') (fun p' w' hp' e' hw' ew' => ⟨rfl, rfl, ?_⟩)
    have a1 : p' = p := nI_i (by omega) (by omega) (by rw [← e', ← e])
    have a2 : w' = w := nI_i (by omega) (by omega) (by rw [← ew', ← ew])
    rw [a1, a2]
    exact la_y hT hN hL
theorem la_slot {V V2 V3 : Prop} (hV : V) (hV2 : V2) (hV3 : V3) (hT : Tp N K E P S L m) (hN : N + 1 ≤ 1048576) (hL : ∀ M, Top (N + 1) M → Lp M) : Wq g (d + 8) ML_slot 1 6 0 [some (pO 10 8 0), some (pI x), some (pI y), some (pI z), some (pO 40 10 0)] [] m (fun o m9 c9 n9 => c9 = 0 ∧ n9 = 0 ∧ cI (fun r h => V ∧ (V2 ∧ (V3 ∧ (Wp g (d + 8) MX5_slot 0 [some (pO 20 9 0), some (pI x), some (pI y), some (pI z)] [] h (cI (aF Lp Y r)))))) o m9) := by
  obtain ⟨t1, t2, t3, t4, t5, t6, t7, t8, t9, t10, t11, t12, t13⟩ := hT
  have hT : Tp N K E P S L m := ⟨t1, t2, t3, t4, t5, t6, t7, t8, t9, t10, t11, t12, t13⟩
  have hP := t1.1.P12
  have hE := t1.1.E4
  refine sgL_slot (co_slot (K := K) (E := E) (P := P) t1 (fun q => ⟨rfl, rfl, cX_3 ⟨rfl, rfl, hV, hV2, hV3, ?_⟩⟩) (fun p hp e q => ⟨rfl, rfl, cX_2 ⟨rfl, rfl, hV, hV2, hV3, ?_⟩⟩) (fun p D w hp e hD eD hw ew => ⟨rfl, rfl, ⟨rfl, rfl, hV, hV2, hV3, ?_⟩⟩))
  · exact mo_slot t2 t1.1 (fun _ => ⟨rfl, rfl, la_k hT hN hL (by decide)⟩) (fun p hp e => absurd ⟨p, hp, e⟩ q) (fun p D w hp e => absurd ⟨p, hp, e⟩ q)
  · exact mo_slot t2 t1.1 (fun q' => absurd ⟨p, hp, e⟩ q') (fun p' hp' e' _ => ⟨rfl, rfl, la_k hT hN hL (by decide)⟩) (fun p' D w hp' e' hD eD hw ew => absurd ⟨⟨D, hD, eD⟩, w, hw, ew⟩ q)
  · refine mo_slot (m := setL m 0 _) (τ := m.1 0) (K := K) (E := E) (P := P) t2 t1.1 (fun q' => absurd ⟨p, hp, e⟩ q') (fun p' hp' e' q' => absurd ⟨⟨D, hD, eD⟩, w, hw, ew⟩ q') (fun p' D' w' hp' e' hD' eD' hw' ew' => ⟨rfl, rfl, ?_⟩)
    have a1 : p' = p := nI_i (by omega) (by omega) (by rw [← e', ← e])
    have a2 : w' = w := nI_i (by omega) (by omega) (by rw [← ew', ← ew])
    have a3 : D' = D := nI_i (by omega) (by omega) (by rw [← eD', ← eD])
    rw [a1, a2, a3]
    exact la_y hT hN hL
theorem la_ifCancelled {V V2 V3 : Prop} (hV : V) (hV2 : V2) (hV3 : V3) (hT : Tp N K E P S L m) (hN : N + 1 ≤ 1048576) (hL : ∀ M, Top (N + 1) M → Lp M) : Wq g (d + 8) ML_ifCancelled 1 6 0 [some (pO 10 8 0), some (pI x), some (pI y), some (pI z), some (pO 40 10 0)] [] m (fun o m9 c9 n9 => c9 = 0 ∧ n9 = 0 ∧ cI (fun r h => V ∧ (V2 ∧ (V3 ∧ (Wp g (d + 8) MX5_ifCancelled 0 [some (pO 20 9 0), some (pI x), some (pI y), some (pI z)] [] h (cI (aF Lp Y r)))))) o m9) := by
  obtain ⟨t1, t2, t3, t4, t5, t6, t7, t8, t9, t10, t11, t12, t13⟩ := hT
  have hT : Tp N K E P S L m := ⟨t1, t2, t3, t4, t5, t6, t7, t8, t9, t10, t11, t12, t13⟩
  have hP := t1.1.P12
  have hE := t1.1.E4
  refine sgL_ifCancelled (co_ifCancelled (K := K) (E := E) (P := P) t1 (by omega) (fun q => ⟨rfl, rfl, cX_3 ⟨rfl, rfl, hV, hV2, hV3, ?_⟩⟩) (fun p hp e q => ⟨rfl, rfl, cX_2 ⟨rfl, rfl, hV, hV2, hV3, ?_⟩⟩) (fun p D w hp e hD eD hw ew τ1 => ⟨rfl, rfl, ⟨rfl, rfl, hV, hV2, hV3, ?_⟩⟩))
  · exact mo_ifCancelled t2 t1.1 (by omega) (fun _ => ⟨rfl, rfl, la_k hT hN hL (by decide)⟩) (fun p hp e => absurd ⟨p, hp, e⟩ q) (fun p D w hp e => absurd ⟨p, hp, e⟩ q)
  · exact mo_ifCancelled t2 t1.1 (by omega) (fun q' => absurd ⟨p, hp, e⟩ q') (fun p' hp' e' _ => ⟨rfl, rfl, la_k hT hN hL (by decide)⟩) (fun p' D w hp' e' hD eD hw ew => absurd ⟨⟨D, hD, eD⟩, w, hw, ew⟩ q)
  · have e9 : ∀ v, (setL (rset m 1 τ1) 0 v).1 9 = m.1 9 := fun v => by rw [setL_1, rset_n (by decide)]
    refine mo_ifCancelled (m := setL (rset m 1 τ1) 0 _) (τ := m.1 0) (K := K) (E := E) (P := P) (by rw [e9]; exact t2) t1.1 (by omega) (fun q' => absurd ⟨p, hp, e⟩ q') (fun p' hp' e' q' => absurd ⟨⟨D, hD, eD⟩, w, hw, ew⟩ q') (fun p' D' w' hp' e' hD' eD' hw' ew' μ f1 f2 => ⟨rfl, rfl, ?_⟩)
    have a1 : p' = p := nI_i (by omega) (by omega) (by rw [← e', ← e])
    have a2 : w' = w := nI_i (by omega) (by omega) (by rw [← ew', ← ew])
    have a3 : D' = D := nI_i (by omega) (by omega) (by rw [← eD', ← eD])
    rw [a1, a2, a3]
    rw [e9] at f1 f2
    have f20 := f1 20 (by decide) (by decide) (by decide)
    refine aF_0 (by rw [rset_s, f20, tI_s]) (by rw [rset_2, setL_s]) (hL _ ?_)
    exact Top_l hT (fun r h1 h2 => by rw [rset_n (by omega), setL_1, rset_n h1]) (fun t _ => by rw [rset_n (by decide), setL_1, rset_n (by decide)]) (by rw [rset_n (by decide), setL_1, rset_n (by decide)]; exact t8) (fun t ht => by rw [rset_s, f1 t (by omega) (by omega) (by omega), tI_t (by omega)]) (by rw [rset_s, f20, tI_k (by decide)]) (by rw [rset_s, f20, tI_k (by decide)]) (fun j hj => by rw [rset_s]; exact f2 j hj) hN
theorem la_count {V : Prop} (hV : V) (hT : Tp N K E P S L m) (hN : N + 1 ≤ 1048576) (hL : ∀ M, Top (N + 1) M → Lp M) : Wq g (d + 8) ML_count 1 6 0 [some (pO 10 8 0), some (pI x), some (pO 40 10 0)] [] m (fun o m9 c9 n9 => c9 = 0 ∧ n9 = 0 ∧ cI (fun r h => V ∧ (Wp g (d + 8) MX5_count 0 [some (pO 20 9 0), some (pI x)] [] h (cI (aF Lp Y r)))) o m9) := by
  obtain ⟨t1, t2, t3, t4, t5, t6, t7, t8, t9, t10, t11, t12, t13⟩ := hT
  have hT : Tp N K E P S L m := ⟨t1, t2, t3, t4, t5, t6, t7, t8, t9, t10, t11, t12, t13⟩
  have hP := t1.1.P12
  have hE := t1.1.E4
  refine sgL_count (co_count (K := K) (E := E) (P := P) (S := S) t1 t4 (fun q => ⟨rfl, rfl, cX_2 ⟨rfl, rfl, hV, ?_⟩⟩) (fun w hw ew => ⟨rfl, rfl, ⟨rfl, rfl, hV, ?_⟩⟩))
  · exact mo_count (E := E) (P := P) (S := S) t2 t1.1 t5 (fun _ => ⟨rfl, rfl, la_k hT hN hL (by decide)⟩) (fun w hw ew => absurd ⟨w, hw, ew⟩ q)
  · refine mo_count (m := setL m 0 _) (τ := m.1 0) (E := E) (P := P) (S := S) t2 t1.1 t5 (fun q' => absurd ⟨w, hw, ew⟩ q') (fun w' hw' ew' => ⟨rfl, rfl, ?_⟩)
    have a2 : w' = w := nI_i (by omega) (by omega) (by rw [← ew', ← ew])
    rw [a2]
    exact la_y hT hN hL
theorem la_setting {V : Prop} (hV : V) (hT : Tp N K E P S L m) (hN : N + 1 ≤ 1048576) (hL : ∀ M, Top (N + 1) M → Lp M) : Wq g (d + 8) ML_setting 1 6 0 [some (pO 10 8 0), some (pI x), some (pO 40 10 0)] [] m (fun o m9 c9 n9 => c9 = 0 ∧ n9 = 0 ∧ cI (fun r h => V ∧ (Wp g (d + 8) MX5_setting 0 [some (pO 20 9 0), some (pI x)] [] h (cI (aF Lp Y r)))) o m9) := by
  obtain ⟨t1, t2, t3, t4, t5, t6, t7, t8, t9, t10, t11, t12, t13⟩ := hT
  have hT : Tp N K E P S L m := ⟨t1, t2, t3, t4, t5, t6, t7, t8, t9, t10, t11, t12, t13⟩
  have hP := t1.1.P12
  have hE := t1.1.E4
  refine sgL_setting (co_setting  (fun q => ⟨rfl, rfl, cX_3 ⟨rfl, rfl, hV, ?_⟩⟩) (fun w hw ew => ⟨rfl, rfl, ⟨rfl, rfl, hV, ?_⟩⟩))
  · exact mo_setting (E := E) (P := P) t2 (fun _ => ⟨rfl, rfl, la_k hT hN hL (by decide)⟩) (fun w hw ew => absurd ⟨w, hw, ew⟩ q)
  · refine mo_setting (m := setL m 0 _) (τ := m.1 0) (E := E) (P := P) t2 (fun q' => absurd ⟨w, hw, ew⟩ q') (fun w' hw' ew' => ⟨rfl, rfl, ?_⟩)
    have a2 : w' = w := nI_i (by omega) (by omega) (by rw [← ew', ← ew])
    rw [a2]
    exact la_y hT hN hL
theorem la_couldHave {V : Prop} (hV : V) (hT : Tp N K E P S L m) (hN : N + 1 ≤ 1048576) (hL : ∀ M, Top (N + 1) M → Lp M) : Wq g (d + 8) ML_couldHave 1 6 0 [some (pO 10 8 0), some (pI x), some (pO 40 10 0)] [] m (fun o m9 c9 n9 => c9 = 0 ∧ n9 = 0 ∧ cI (fun r h => V ∧ (Wp g (d + 8) MX5_couldHave 0 [some (pO 20 9 0), some (pI x)] [] h (cI (aF Lp Y r)))) o m9) := by
  obtain ⟨t1, t2, t3, t4, t5, t6, t7, t8, t9, t10, t11, t12, t13⟩ := hT
  have hT : Tp N K E P S L m := ⟨t1, t2, t3, t4, t5, t6, t7, t8, t9, t10, t11, t12, t13⟩
  have hP := t1.1.P12
  have hE := t1.1.E4
  refine sgL_couldHave (co_couldHave (K := K) (E := E) (P := P) t1 (fun q => ⟨rfl, rfl, cX_2 ⟨rfl, rfl, hV, ?_⟩⟩) (fun w hw ew => ⟨rfl, rfl, ⟨rfl, rfl, hV, ?_⟩⟩))
  · exact mo_couldHave t2 t1.1 (fun _ => ⟨rfl, rfl, la_k hT hN hL (by decide)⟩) (fun w hw ew => absurd ⟨w, hw, ew⟩ q)
  · refine mo_couldHave (m := setL m 0 _) (τ := m.1 0) (K := K) (E := E) (P := P) t2 t1.1 (fun q' => absurd ⟨w, hw, ew⟩ q') (fun w' hw' ew' μ f => ⟨rfl, rfl, ?_⟩)
    have a2 : w' = w := nI_i (by omega) (by omega) (by rw [← ew', ← ew])
    rw [a2]
    have f20 := f 20 (by decide) (by decide) (by decide) (by decide)
    refine aF_0 (by rw [rset_s, f20, tI_s]) (by rw [rset_2, setL_s]) (hL _ ?_)
    exact Top_l hT (fun r h1 h2 => by rw [rset_n (by omega), setL_1]) (fun t _ => by rw [rset_n (by decide), setL_1]) (by rw [rset_n (by decide), setL_1]; exact t8) (fun t ht => by rw [rset_s, f t (by omega) (by omega) (by omega) (by omega), tI_t (by omega), setL_1]) (by rw [rset_s, f20, tI_k (by decide), setL_1]) (by rw [rset_s, f20, tI_k (by decide), setL_1]) (fun j hj => by rw [rset_s, f 21 (by decide) (by decide) (by decide) (by decide), tI_t (by decide), setL_1]) hN
theorem la_ifTested {V V2 : Prop} (hV : V) (hV2 : V2) (hT : Tp N K E P S L m) (hN : N + 1 ≤ 1048576) (hL : ∀ M, Top (N + 1) M → Lp M) : Wq g (d + 8) ML_ifTested 1 6 0 [some (pO 10 8 0), some (pI x), some (pI y), some (pO 40 10 0)] [] m (fun o m9 c9 n9 => c9 = 0 ∧ n9 = 0 ∧ cI (fun r h => V ∧ (V2 ∧ (Wp g (d + 8) MX5_ifTested 0 [some (pO 20 9 0), some (pI x), some (pI y)] [] h (cI (aF Lp Y r))))) o m9) := by
  obtain ⟨t1, t2, t3, t4, t5, t6, t7, t8, t9, t10, t11, t12, t13⟩ := hT
  have hT : Tp N K E P S L m := ⟨t1, t2, t3, t4, t5, t6, t7, t8, t9, t10, t11, t12, t13⟩
  have hP := t1.1.P12
  have hE := t1.1.E4
  refine sgL_ifTested (co_ifTested (K := K) (E := E) (P := P) t1 (fun q => ⟨rfl, rfl, cX_3 ⟨rfl, rfl, hV, hV2, ?_⟩⟩) (fun p w hp e hw ew => ⟨rfl, rfl, ⟨rfl, rfl, hV, hV2, ?_⟩⟩))
  · exact mo_ifTested t2 t1.1 (fun _ => ⟨rfl, rfl, la_k hT hN hL (by decide)⟩) (fun p w hp e hw ew => absurd ⟨⟨p, hp, e⟩, w, hw, ew⟩ q)
  · refine mo_ifTested (m := setL m 0 _) (τ := m.1 0) (K := K) (E := E) (P := P) t2 t1.1 (fun q' => absurd ⟨⟨p, hp, e⟩, w, hw, ew⟩ q') (fun p' w' hp' e' hw' ew' => ⟨rfl, rfl, ?_⟩)
    have a1 : p' = p := nI_i (by omega) (by omega) (by rw [← e', ← e])
    have a2 : w' = w := nI_i (by omega) (by omega) (by rw [← ew', ← ew])
    rw [a1, a2]
    exact la_y hT hN hL
theorem la_append {V : Prop} (hV : V) (hT : Tp N K E P S L m) (hN : N + 1 ≤ 1048576) (hL : ∀ M, Top (N + 1) M → Lp M) : Wq g (d + 8) ML_append 1 6 0 [some (pO 10 8 0), some (pI x), some (pO 40 10 0)] [] m (fun o m9 c9 n9 => c9 = 0 ∧ n9 = 0 ∧ cI (fun r h => V ∧ (Wp g (d + 8) MX5_append 0 [some (pO 20 9 0), some (pI x)] [] h (cI (aF Lp Y r)))) o m9) := by
  obtain ⟨t1, t2, t3, t4, t5, t6, t7, t8, t9, t10, t11, t12, t13⟩ := hT
  have hT : Tp N K E P S L m := ⟨t1, t2, t3, t4, t5, t6, t7, t8, t9, t10, t11, t12, t13⟩
  have hP := t1.1.P12
  have hE := t1.1.E4
  refine sgL_append (co_append (L := L) t8 t10 (fun q => ⟨rfl, rfl, cX_2 ⟨rfl, rfl, hV, ?_⟩⟩) (fun q q2 => ⟨rfl, rfl, cX_1 ⟨rfl, rfl, hV, ?_⟩⟩) (fun q q2 => ⟨rfl, rfl, ⟨rfl, rfl, hV, ?_⟩⟩))
  · exact mo_append t9 t10 (fun _ => ⟨rfl, rfl, la_k hT hN hL (by decide)⟩) (fun z => absurd z q) (fun z => absurd z q)
  · exact mo_append t9 t10 (fun z => absurd q z) (fun _ _ => ⟨rfl, rfl, la_k hT hN hL (by decide)⟩) (fun _ z => absurd z (by omega))
  · have e9 : ∀ v, (setL (rset m 8 (tI (tI (m.1 8) 13 0 L x) 12 0 1 (nI (L + 1)))) 0 v).1 9 = m.1 9 := fun v => by rw [setL_1, rset_n (by decide)]
    refine mo_append (m := setL (rset m 8 (tI (tI (m.1 8) 13 0 L x) 12 0 1 (nI (L + 1)))) 0 _) (L := L) (by rw [e9]; exact t9) t10 (fun z => absurd q z) (fun _ z => absurd z (by omega)) (fun _ _ => ⟨rfl, rfl, ?_⟩)
    rw [e9]
    refine aF_0 (by rw [rset_s]; simp (disch := omega) only [setI_eq, rset_rset, rset_s, rset_2, tI_s, tI_t, tI_j, tI_k]) (by rw [rset_2, setL_s]) (hL _ ?_)
    have es : ∀ i, i < 6 → sv (rset (setL (rset m 8 (tI (tI (m.1 8) 13 0 L x) 12 0 1 (nI (L + 1)))) 0 (Int32.toInt64 (nI (L + 1)))) 9 (tI (tI (tI (m.1 9) 20 0 0 0) 24 0 L x) 20 0 6 (nI (L + 1)))) i = sv m i := fun i hi => by
      unfold sv
      rw [rset_n (r' := 8) (by decide), setL_1, rset_s]
      simp (disch := omega) only [setI_eq, rset_rset, rset_s, rset_2, tI_s, tI_t, tI_j, tI_k]
      have := t3.1 i hi
      rw [rset_n (by omega), setL_1, rset_n (by omega)]
    refine ⟨K, E, P, S, L + 1, by rw [rset_n (by decide), setL_1, rset_n (by decide)]; exact t1, ?_, ?_, ?_, ?_, t6, fun i hi => ?_, ?_, ?_, by omega, ?_, by omega, hN⟩
    · rw [rset_n (r' := 0) (by decide), setL_1, rset_n (r' := 0) (by decide), rset_s]
      simp (disch := omega) only [setI_eq, rset_rset, rset_s, rset_2, tI_s, tI_t, tI_j, tI_k]
      exact t2
    · unfold RF at t3 ⊢
      rw [rset_n (r' := 8) (by decide), setL_1, rset_s]
      simp (disch := omega) only [setI_eq, rset_rset, rset_s, rset_2, tI_s, tI_t, tI_j, tI_k]
      exact t3
    · rw [rset_n (r' := 8) (by decide), setL_1, rset_s]
      simp (disch := omega) only [setI_eq, rset_rset, rset_s, rset_2, tI_s, tI_t, tI_j, tI_k]
      exact t4
    · rw [rset_s]
      simp (disch := omega) only [setI_eq, rset_rset, rset_s, rset_2, tI_s, tI_t, tI_j, tI_k]
      exact t5
    · rw [es i (by omega), rset_s]
      simp (disch := omega) only [setI_eq, rset_rset, rset_s, rset_2, tI_s, tI_t, tI_j, tI_k]
      exact t7 i hi
    · rw [rset_n (r' := 8) (by decide), setL_1, rset_s]
      simp (disch := omega) only [setI_eq, rset_rset, rset_s, rset_2, tI_s, tI_t, tI_j, tI_k]
    · rw [rset_s]
      simp (disch := omega) only [setI_eq, rset_rset, rset_s, rset_2, tI_s, tI_t, tI_j, tI_k]
    · rw [rset_n (r' := 8) (by decide), setL_1, rset_s, rset_s]
      rw [tI_t (t := 12) (by decide), tI_r, tI_t (t := 20) (t' := 24) (by decide), tI_r, tI_t (t := 20) (t' := 24) (by decide), t11]
end C2
