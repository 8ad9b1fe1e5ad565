/-! THE DIGEST, of both -/
theorem hf_0 {f : Nat → Int32} {h : Int64} : hf f 0 h = h := rfl
/-- what the model's digest leaves -/
def DgM (m M : PM) (h : Int64) : Prop := (∀ r, r ≠ 9 → M.1 r = m.1 r) ∧ (∀ t, t ≠ 21 → t ≠ 22 → t ≠ 25 → t ≠ 27 → t ≠ 28 → t ≠ 29 → t ≠ 30 → M.1 9 t = m.1 9 t) ∧ (∀ j, j < 341 → M.1 9 21 0 j = m.1 9 21 0 j) ∧ (∀ k, k ≠ 1 → M.2 k = m.2 k) ∧ M.2 1 = h
section D2
variable {g : GG} {d : Nat} {c n : Nat} {m : PM} {Q : Ou → PM → Nat → Nat → Prop} {K E P S L V W : Nat} {B : Int64} {τ : Nat → Nat → Nat → Int32}
theorem co_passedShare' (hV : Vv K E P (m.1 0)) (e1 : sI (fun e => (m.1 0) 5 e 1) E = nI V) (e2 : sI (fun e => sI ((m.1 0) 6 e) 4) E = nI W) (h1 : V ≤ W) (hW : W < 2 ^ 31) (h : Q (.inl (some (pD (shV V W)))) m c n) : Wq g (d + 2) MX4_passedShare c n 0 [some (pO 10 8 0)] [] m Q := by
  have h' := h
  unfold shV at h'
  refine sgX4_passedShare (co_testsSoFar hV.1.hE hV.1.E4 ⟨rfl, rfl, ?_⟩)
  dsimp only [cI]
  rw [e2]
  have w0 : nI W = 0 ↔ W = 0 := ⟨fun z => nI_i (by omega) (by decide) (show nI W = nI 0 from z), fun z => by rw [z]; rfl⟩
  rw [w0]
  refine ⟨fun q => co_passedSoFar hV.1.hE hV.1.E4 ⟨rfl, rfl, ?_⟩, fun q => ?_⟩
  · dsimp only [cI]
    rw [e1]
    rw [if_neg q] at h'
    exact ⟨div_n q (by omega) (by omega), h'⟩
  · rw [if_pos q] at h'
    exact h'
theorem co_digest (hV : Vv K E P (m.1 0)) (hK : K + 3 < 2 ^ 31) (hS : m.1 8 10 0 3 = nI S) (hl : m.1 8 12 0 1 = nI L) (hL : L ≤ 60) (e1 : sI (fun e => (m.1 0) 5 e 1) E = nI V) (e2 : sI (fun e => sI ((m.1 0) 6 e) 4) E = nI W) (h1 : V ≤ W) (hW : W < 2 ^ 31) (hB : ∀ {g : GG} {d c n : Nat} {m : PM} {Q : Ou → PM → Nat → Nat → Prop}, Q (.inl (some (pL B))) m c n → Wq g d MX4_bitsOf c n 0 [some (pD (shV V W)), none] [] m Q) (h : ∀ σ, Q (.inl (some (pL (dgA E P S (m.1 0) (m.1 8 13 0) L B)))) (rset m 1 σ) c n) : Wq g (d + 9) MX4_digest c n 0 [some (pO 10 8 0)] [] m Q := by
  have hP := hV.1.P12
  have hE := hV.1.E4
  refine sgX4_digest ?_
  refine Wq.up (S := Unit) 15 (fun w _ => [some (pO 10 8 0), some (pL (hf (cCnt E P S (m.1 0)) w 2731)), none, some (pI (nI w))]) (fun _ _ => m) (fun _ _ => True) (fun _ _ => ?_) (fun w _ hw _ ih => ?_) 0 () (by omega) trivial
  · refine sgX4_digest_6 ⟨fun _ => ?_, fun q => absurd (show (14 : Int32) < nI 15 by decide) q⟩
    refine Wq.up (S := Unit) 4 (fun w _ => [some (pO 10 8 0), some (pL (hf (m.1 0 1 0) w (hf (cCnt E P S (m.1 0)) 15 2731))), none, some (pI (nI w))]) (fun _ _ => m) (fun _ _ => True) (fun _ _ => ?_) (fun w _ hw _ ih => ?_) 0 () (by omega) trivial
    · refine sgX4_digest_31 ⟨fun _ => ?_, fun q => absurd (geL (Nat.le_refl 4) (by decide)) q⟩
      refine Wq.up (S := Unit) P (fun p _ => [some (pO 10 8 0), some (pL (dgP P (m.1 0) p (hf (m.1 0 1 0) 4 (hf (cCnt E P S (m.1 0)) 15 2731)))), none, some (pI (nI p))]) (fun _ _ => m) (fun _ _ => True) (fun _ _ => ?_) (fun p _ hp _ ih => ?_) 0 () (by omega) trivial
      · refine sgX4_digest_66 ⟨fun _ => ?_, fun q => absurd (by rw [hV.1.hP]; exact geL (Nat.le_refl P) (by omega)) q⟩
        have key := Wq.up (g := g) (d := d + 9) (M := MX4_digest) (c := c) (n := n) (pc := 92) (Q := Q) (S := Nat → Nat → Nat → Int32) E (fun e _ => [some (pO 10 8 0), some (pL (dgE P (m.1 0) e (dgP P (m.1 0) P (hf (m.1 0 1 0) 4 (hf (cCnt E P S (m.1 0)) 15 2731))))), none, some (pI (nI e))]) (fun _ σ => rset m 1 σ) (fun _ _ => True) (fun σ _ => ?_) (fun e σ he _ ih => ?_) 0 (m.1 1) (by omega) trivial
        · rw [rset_id] at key
          exact key
        · have e0 : (rset m 1 σ).1 0 = m.1 0 := rset_n (by decide)
          have hV' : Vv K E P ((rset m 1 σ).1 0) := by rw [e0]; exact hV
          have e8 : (rset m 1 σ).1 8 = m.1 8 := rset_n (by decide)
          have could : ∀ (D : Nat) (K' : Int32 → PM → Prop), D ≤ 9 → K' (nI (cMost (m.1 0) E P D 16)) (rset m 1 σ) → Wp g (d + 8) MX4_couldHave 0 [some (pO 10 8 0), some (pI (nI D))] [] (rset m 1 σ) (cI K') := fun D K' hD hk => by
            refine co_couldHave hV' (fun z => absurd ⟨D, hD, rfl⟩ z) (fun D' hD' eD => ⟨rfl, rfl, ?_⟩)
            have a1 : D' = D := (nI_i (by omega) (by omega) eD).symm
            rw [a1, e0]
            exact hk
          refine sgX4_digest_92 ⟨fun _ => ?_, fun q => absurd (by rw [e0, hV.1.hE]; exact geL (Nat.le_refl E) (by omega)) q⟩
          refine could 0 _ (by decide) (could 1 _ (by decide) (could 5 _ (by decide) ?_))
          refine co_passedShare' hV' (by rw [e0]; exact e1) (by rw [e0]; exact e2) h1 hW ⟨rfl, rfl, ?_⟩
          dsimp only [cD]
          refine hB ⟨rfl, rfl, ?_⟩
          dsimp only [cL]
          rw [e8, hl]
          refine Wq.up (S := Unit) L (fun j _ => [some (pO 10 8 0), some (pL (hf (m.1 8 13 0) j (hs ((31 * (hs (hs (hs (dgE P (m.1 0) E (dgP P (m.1 0) P (hf (m.1 0 1 0) 4 (hf (cCnt E P S (m.1 0)) 15 2731)))) (nI (cMost (m.1 0) E P 0 16))) (nI (cMost (m.1 0) E P 1 16))) (nI (cMost (m.1 0) E P 5 16)))) + B) (nI L)))), none, some (pI (nI j))]) (fun _ _ => rset m 1 σ) (fun _ _ => True) (fun _ _ => ?_) (fun j _ hj _ ih => ?_) 0 () (by omega) trivial
          · have h' := h σ
            unfold dgA at h'
            refine sgX4_digest_176 ⟨fun _ => h', fun _ => ⟨fun _ => h', fun q => absurd (by rw [e8, hl]; exact geL (Nat.le_refl L) (by omega)) q⟩⟩
          · refine sgX4_digest_176 ⟨fun q => absurd q (ngeL (show j < 60 by omega) (by decide)), fun _ => ⟨fun q => absurd (by rw [e8, hl] at q; exact q) (ngeL hj (by omega)), fun _ => ?_⟩⟩
            rw [e8, ixn (by omega), nI_1]
            exact ⟨vp_in_nI (by omega) (by decide), ih () trivial⟩
        · have e0 : (rset m 1 σ).1 0 = m.1 0 := rset_n (by decide)
          have hV' : Vv K E P ((rset m 1 σ).1 0) := by rw [e0]; exact hV
          refine sgX4_digest_92 ⟨fun q => absurd (by rw [e0, hV.1.hE] at q; exact q) (ngeL he (by omega)), fun _ => ?_⟩
          refine co_hashWithExaminer hV' hK he fun σ' => ⟨rfl, rfl, ?_⟩
          dsimp only [cL]
          rw [rset_rset, e0, nI_1]
          exact ih σ' trivial
      · refine sgX4_digest_66 ⟨fun q => absurd (by rw [hV.1.hP] at q; exact q) (ngeL hp (by omega)), fun _ => ?_⟩
        refine co_hashWithPupil hV hp ⟨rfl, rfl, ?_⟩
        dsimp only [cL]
        rw [nI_1]
        exact ih () trivial
    · refine sgX4_digest_31 ⟨fun q => absurd q (ngeL hw (by decide)), fun _ => ?_⟩
      rw [ixn (by omega), nI_1]
      exact ⟨vp_in_nI (by omega) (by decide), ih () trivial⟩
  · have nl : ¬ (14 : Int32) < nI w := by
      rw [show (14 : Int32) = nI 14 from rfl, ← Int32.not_le, nI_leI (by omega) (by omega)]
      omega
    refine sgX4_digest_6 ⟨fun q => absurd q nl, fun _ => co_count hV hS (fun z => absurd ⟨w, by omega, rfl⟩ z) (fun v hv e2 => ⟨rfl, rfl, ?_⟩)⟩
    have a1 : v = w := (nI_i (by omega) (by omega) e2).symm
    rw [a1]
    dsimp only [cI]
    rw [nI_1]
    exact ih () trivial
theorem DgM_h {M : PM} {h x : Int64} (k : DgM m M h) : DgM m (setL M 1 x) x := ⟨fun r hr => by rw [setL_1]; exact k.1 r hr, by rw [setL_1]; exact k.2.1, by rw [setL_1]; exact k.2.2.1, fun j hj => by rw [setL_o hj]; exact k.2.2.2.1 j hj, setL_s⟩
theorem DgM_r {M : PM} {h : Int64} (k : DgM m M h) (hE : E ≤ 4) (hP : P ≤ 12) (hR : Rel E P τ (m.1 9 21 0)) : Rel E P τ (M.1 9 21 0) := Rel_row hE hP k.2.2.1 hR
theorem mo_dg_ex {e : Nat} {x : Int64} (hR : Rel E P τ (m.1 9 21 0)) (hV : Vv K E P τ) (hK : K + 9 < 2 ^ 31) (he : e < E) (M : PM) (hM : DgM m M x) (ih : ∀ M', DgM m M' (if P = 0 then hf (fun j => cIf P τ e (j / 3) (j % 3)) 6 (hf (fun j => τ 2 0 (4 * j + e)) 40 (hf (cExa τ e) 9 x)) else hs (hf (fun j => cIf P τ e (j / 3) (j % 3)) 6 (hf (fun j => τ 2 0 (4 * j + e)) 40 (hf (cExa τ e) 9 x))) (nI (cRoute (τ 6 e) (τ 4 0 3)))) → Wq g (d + 7) MX5_digest c n 134 [some (pO 20 9 0), some (pI (nI (e + 1))), none] [] M' Q) : Wq g (d + 7) MX5_digest c n 146 [some (pO 20 9 0), some (pI (nI e)), some (pI 0)] [] M Q := by
  have hI := hV.1
  have hP := hI.P12
  have hE := hI.E4
  refine Wq.up (S := PM) 9 (fun w _ => [some (pO 20 9 0), some (pI (nI e)), some (pI (nI w))]) (fun _ M => M) (fun w M => DgM m M (hf (cExa τ e) w x)) (fun M1 k1 => ?_) (fun w M1 hw k1 ih1 => ?_) 0 M (by omega) (by rw [hf_0]; exact hM)
  · refine sgX5_digest_146 ⟨fun _ => ?_, fun q => absurd (geL (Nat.le_refl 9) (by decide)) q⟩
    refine Wq.up (S := PM) 40 (fun j _ => [some (pO 20 9 0), some (pI (nI e)), some (pI (nI j))]) (fun _ M => M) (fun j M => DgM m M (hf (fun j => τ 2 0 (4 * j + e)) j (hf (cExa τ e) 9 x))) (fun M2 k2 => ?_) (fun j M2 hj k2 ih2 => ?_) 0 M1 (by omega) (by rw [hf_0]; exact k1)
    · refine sgX5_digest_171 ⟨fun _ => ?_, fun q => absurd (geL (Nat.le_refl 40) (by decide)) q⟩
      refine Wq.up (S := PM) 6 (fun j _ => [some (pO 20 9 0), some (pI (nI e)), some (pI (nI j))]) (fun _ M => M) (fun j M => DgM m M (hf (fun j => cIf P τ e (j / 3) (j % 3)) j (hf (fun j => τ 2 0 (4 * j + e)) 40 (hf (cExa τ e) 9 x)))) (fun M3 k3 => ?_) (fun j M3 hj k3 ih3 => ?_) 0 M2 (by omega) (by rw [hf_0]; exact k2)
      · have hR3 := DgM_r k3 hE hP hR
        have hpp : M3.1 9 21 0 (ix 2) = nI P := by rw [ix_2, hR3.1 2 (by decide), hI.hP]
        refine sgX5_digest_204 ⟨fun _ => ?_, fun q => absurd (geL (Nat.le_refl 6) (by decide)) q⟩
        rw [hpp, nI_1]
        refine ⟨fun q => ih M3 ?_, fun q => ?_⟩
        · have p0 : P = 0 := by
            rw [show (0 : Int32) = nI 0 from rfl, nI_leI (by omega) (by omega)] at q
            omega
          rw [if_pos p0]
          exact k3
        · have p0 : ¬ P = 0 := fun z => q (by rw [z]; decide)
          refine mo_routeFor (p := 0) hR3 hI (by omega) he ⟨rfl, rfl, ?_⟩
          dsimp only [cI]
          rw [k3.2.2.2.2]
          refine ih _ ?_
          rw [if_neg p0]
          exact DgM_h k3
      · refine sgX5_digest_204 ⟨fun q => absurd q (ngeL hj (by decide)), fun _ => ?_⟩
        rw [show nI j / 3 = nI (j / 3) from pk_div (by omega) (by decide) (by decide), show irm (nI j) 3 = nI (j % 3) from pk_rem (by omega) (by decide) (by decide)]
        refine mo_cancelled (DgM_r k3 hE hP hR) hI hK he (by omega) (by omega) fun μ f1 f2 => ⟨rfl, rfl, ?_⟩
        dsimp only [cI]
        rw [nI_1, rset_2, k3.2.2.2.2]
        refine ih3 _ (DgM_h (h := hf (fun j => cIf P τ e (j / 3) (j % 3)) j (hf (fun j => τ 2 0 (4 * j + e)) 40 (hf (cExa τ e) 9 x))) ?_)
        exact ⟨fun r hr => by rw [rset_n hr]; exact k3.1 r hr, fun t a b e' f' g' h' i' => by rw [rset_s, f1 t a b e']; exact k3.2.1 t a b e' f' g' h' i', fun j hj => by rw [rset_s, f2 j hj]; exact k3.2.2.1 j hj, k3.2.2.2.1, k3.2.2.2.2⟩
    · refine sgX5_digest_171 ⟨fun q => absurd q (ngeL hj (by decide)), fun _ => ?_⟩
      rw [at_j, ixn (by omega), nI_1, (DgM_r k2 hE hP hR).k he hE hj, k2.2.2.2.2]
      exact ⟨vp_in_nI (by omega) (by decide), ih2 _ (DgM_h k2)⟩
  · refine sgX5_digest_146 ⟨fun q => absurd q (ngeL hw (by decide)), fun _ => ?_⟩
    refine mo_examinerOf (DgM_r k1 hE hP hR) hI he hw ⟨rfl, rfl, ?_⟩
    dsimp only [cI]
    rw [nI_1, k1.2.2.2.2]
    exact ih1 _ (DgM_h k1)
theorem mo_digest_134 (hR : Rel E P τ (m.1 9 21 0)) (hV : Vv K E P τ) (hK : K + 9 < 2 ^ 31) (hl : m.1 9 20 0 6 = nI L) (hL : L ≤ 60) (e1 : sI (fun e => τ 5 e 1) E = nI V) (e2 : sI (fun e => sI (τ 6 e) 4) E = nI W) (h1 : V ≤ W) (hW : W < 2 ^ 31) (hB : ∀ {g : GG} {d c n : Nat} {m : PM} {Q : Ou → PM → Nat → Nat → Prop}, Q (.inl (some (pL B))) m c n → Wq g d MX5_bitsOfShare c n 0 [some (pD (shV V W)), none] [] m Q) {x : Int64} (h : ∀ M, DgM m M (hf (m.1 9 24 0) L (hs ((31 * (hs (hs (hs (dgE P τ E x) (nI (cMost τ E P 0 16))) (nI (cMost τ E P 1 16))) (nI (cMost τ E P 5 16)))) + B) (nI L))) → Q (.inl (some (pL (hf (m.1 9 24 0) L (hs ((31 * (hs (hs (hs (dgE P τ E x) (nI (cMost τ E P 0 16))) (nI (cMost τ E P 1 16))) (nI (cMost τ E P 5 16)))) + B) (nI L)))))) M c n) (M0 : PM) (hM0 : DgM m M0 x) : Wq g (d + 7) MX5_digest c n 134 [some (pO 20 9 0), some (pI 0), none] [] M0 Q := by
  have hI := hV.1
  have hP := hI.P12
  have hE := hI.E4
  refine Wq.up (S := PM) E (fun e _ => [some (pO 20 9 0), some (pI (nI e)), none]) (fun _ M => M) (fun e M => DgM m M (dgE P τ e x)) (fun M hM => ?_) (fun e M he hM ih => ?_) 0 M0 (by omega) hM0
  · have hR1 := DgM_r hM hE hP hR
    have hend : M.1 9 21 0 (ix 1) = nI E := by rw [ix_1, hR1.1 1 (by decide), hI.hE]
    refine sgX5_digest_134 ⟨fun _ => ?_, fun q => absurd (by rw [hend]; exact geL (Nat.le_refl E) (by omega)) q⟩
    have could : ∀ (D : Nat) (M1 : PM) (y : Int64) (K' : Int32 → PM → Prop), D < 10 → DgM m M1 y → (∀ M2, DgM m M2 y → K' (nI (cMost τ E P D 16)) M2) → Wp g (d + 6) MX5_could 0 [some (pO 20 9 0), some (pI (nI D))] [] M1 (cI K') := fun D M1 y K' hD k1 hk => by
      refine mo_could (DgM_r k1 hE hP hR) hI hD fun μ f => ⟨rfl, rfl, hk _ ?_⟩
      exact ⟨fun r hr => by rw [rset_n hr]; exact k1.1 r hr, fun t a b e f' g' h' i' => by rw [rset_s, f t f' g' h' i']; exact k1.2.1 t a b e f' g' h' i', fun j hj => by rw [rset_s, f 21 (by decide) (by decide) (by decide) (by decide)]; exact k1.2.2.1 j hj, k1.2.2.2.1, k1.2.2.2.2⟩
    refine could 0 M _ _ (by decide) hM fun M1 k1 => ?_
    have q1 := DgM_h (x := hs (dgE P τ E x) (nI (cMost τ E P 0 16))) k1
    refine could 1 (setL M1 1 ((31 * (M1.2 1)) + (Int32.toInt64 (nI (cMost τ E P 0 16))))) _ _ (by decide) (by rw [k1.2.2.2.2]; exact q1) fun M2 k2 => ?_
    have q2 := DgM_h (x := hs (hs (dgE P τ E x) (nI (cMost τ E P 0 16))) (nI (cMost τ E P 1 16))) k2
    refine could 5 (setL M2 1 ((31 * (M2.2 1)) + (Int32.toInt64 (nI (cMost τ E P 1 16))))) _ _ (by decide) (by rw [k2.2.2.2.2]; exact q2) fun M3 k3 => ?_
    have q3 := DgM_h (x := hs (hs (hs (dgE P τ E x) (nI (cMost τ E P 0 16))) (nI (cMost τ E P 1 16))) (nI (cMost τ E P 5 16))) k3
    have q3' : DgM m (setL M3 1 ((31 * (M3.2 1)) + (Int32.toInt64 (nI (cMost τ E P 5 16))))) (hs (hs (hs (dgE P τ E x) (nI (cMost τ E P 0 16))) (nI (cMost τ E P 1 16))) (nI (cMost τ E P 5 16))) := by rw [k3.2.2.2.2]; exact q3
    generalize setL M3 1 ((31 * (M3.2 1)) + (Int32.toInt64 (nI (cMost τ E P 5 16)))) = M4 at q3' ⊢
    refine mo_share (DgM_r q3' hE hP hR) hI e1 e2 h1 hW ⟨rfl, rfl, ?_⟩
    dsimp only [cD]
    refine hB ⟨rfl, rfl, ?_⟩
    dsimp only [cL]
    have l4 : M4.1 9 20 0 6 = nI L := by rw [q3'.2.1 20 (by decide) (by decide) (by decide) (by decide) (by decide) (by decide) (by decide), hl]
    have q4 : DgM m (setL (setL M4 1 ((31 * (M4.2 1)) + B)) 1 ((31 * ((setL M4 1 ((31 * (M4.2 1)) + B)).2 1)) + (Int32.toInt64 ((setL M4 1 ((31 * (M4.2 1)) + B)).1 9 20 0 6)))) (hs ((31 * (hs (hs (hs (dgE P τ E x) (nI (cMost τ E P 0 16))) (nI (cMost τ E P 1 16))) (nI (cMost τ E P 5 16)))) + B) (nI L)) := by
      rw [setL_s, setL_1, l4, q3'.2.2.2.2]
      exact DgM_h (DgM_h q3')
    generalize setL (setL M4 1 ((31 * (M4.2 1)) + B)) 1 ((31 * ((setL M4 1 ((31 * (M4.2 1)) + B)).2 1)) + (Int32.toInt64 ((setL M4 1 ((31 * (M4.2 1)) + B)).1 9 20 0 6))) = M5 at q4 ⊢
    refine Wq.up (S := PM) L (fun j _ => [some (pO 20 9 0), some (pI (nI j)), none]) (fun _ M => M) (fun j M => DgM m M (hf (m.1 9 24 0) j (hs ((31 * (hs (hs (hs (dgE P τ E x) (nI (cMost τ E P 0 16))) (nI (cMost τ E P 1 16))) (nI (cMost τ E P 5 16)))) + B) (nI L)))) (fun M6 k6 => ?_) (fun j M6 hj k6 ih => ?_) 0 M5 (by omega) (by rw [hf_0]; exact q4)
    · have l6 : M6.1 9 20 0 6 = nI L := by rw [k6.2.1 20 (by decide) (by decide) (by decide) (by decide) (by decide) (by decide) (by decide), hl]
      refine sgX5_digest_310 ⟨fun _ => ?_, fun q => absurd (by rw [l6]; exact geL (Nat.le_refl L) (by omega)) q⟩
      rw [k6.2.2.2.2]
      exact h M6 k6
    · have l6 : M6.1 9 20 0 6 = nI L := by rw [k6.2.1 20 (by decide) (by decide) (by decide) (by decide) (by decide) (by decide) (by decide), hl]
      have l24 : M6.1 9 24 0 = m.1 9 24 0 := by rw [k6.2.1 24 (by decide) (by decide) (by decide) (by decide) (by decide) (by decide) (by decide)]
      refine sgX5_digest_310 ⟨fun q => absurd (by rw [l6] at q; exact q) (ngeL hj (by omega)), fun _ => ⟨vp_in_nI (by omega) (by decide), ?_⟩⟩
      rw [ixn (by omega), nI_1, l24, k6.2.2.2.2]
      exact ih _ (DgM_h k6)
  · have hR1 := DgM_r hM hE hP hR
    have hend : M.1 9 21 0 (ix 1) = nI E := by rw [ix_1, hR1.1 1 (by decide), hI.hE]
    refine sgX5_digest_134 ⟨fun q => absurd (by rw [hend] at q; exact q) (ngeL he (by omega)), fun _ => ?_⟩
    refine mo_dg_ex hR hV hK he M hM fun M' k => ih M' ?_
    rw [dgE]
    unfold dgE2 dgE1
    exact k
theorem mo_digest (hR : Rel E P τ (m.1 9 21 0)) (hV : Vv K E P τ) (hK : K + 9 < 2 ^ 31) (hS : m.1 9 20 0 4 = nI S) (hl : m.1 9 20 0 6 = nI L) (hL : L ≤ 60) (e1 : sI (fun e => τ 5 e 1) E = nI V) (e2 : sI (fun e => sI (τ 6 e) 4) E = nI W) (h1 : V ≤ W) (hW : W < 2 ^ 31) (hB : ∀ {g : GG} {d c n : Nat} {m : PM} {Q : Ou → PM → Nat → Nat → Prop}, Q (.inl (some (pL B))) m c n → Wq g d MX5_bitsOfShare c n 0 [some (pD (shV V W)), none] [] m Q) (h : ∀ M, DgM (setI m 20 9 0 0 0) M (dgA E P S τ (m.1 9 24 0) L B) → Q (.inl (some (pL (dgA E P S τ (m.1 9 24 0) L B)))) M c n) : Wq g (d + 7) MX5_digest c n 0 [some (pO 20 9 0)] [] m Q := by
  have hI := hV.1
  have hP := hI.P12
  have hE := hI.E4
  have hR0 : Rel E P τ ((setI m 20 9 0 0 0).1 9 21 0) := by rw [flR]; exact hR
  have hS0 : (setI m 20 9 0 0 0).1 9 20 0 4 = nI S := by rw [setI_eq, rset_s, tI_k (by decide)]; exact hS
  have hl0 : (setI m 20 9 0 0 0).1 9 20 0 6 = nI L := by rw [setI_eq, rset_s, tI_k (by decide)]; exact hl
  have h24 : (setI m 20 9 0 0 0).1 9 24 0 = m.1 9 24 0 := by rw [setI_eq, rset_s, tI_t (by decide)]
  refine sgX5_digest ?_
  generalize setI m 20 9 0 0 0 = m0 at *
  rw [← h24] at h
  have k0 : DgM m0 (setL m0 1 2731) 2731 := ⟨fun _ _ => rfl, fun _ _ _ _ _ _ _ _ => rfl, fun _ _ => rfl, fun j hj => setL_o hj, setL_s⟩
  refine Wq.up (S := PM) 15 (fun w _ => [some (pO 20 9 0), some (pI (nI w)), none]) (fun _ M => M) (fun w M => DgM m0 M (hf (cCnt E P S τ) w 2731)) (fun M1 k1 => ?_) (fun w M1 hw k1 ih1 => ?_) 0 _ (by omega) (by rw [hf_0]; exact k0)
  · refine sgX5_digest_14 ⟨fun _ => ?_, fun q => absurd (geL (Nat.le_refl 15) (by decide)) q⟩
    refine Wq.up (S := PM) 4 (fun w _ => [some (pO 20 9 0), some (pI (nI w)), none]) (fun _ M => M) (fun w M => DgM m0 M (hf (τ 1 0) w (hf (cCnt E P S τ) 15 2731))) (fun M2 k2 => ?_) (fun w M2 hw k2 ih2 => ?_) 0 M1 (by omega) (by rw [hf_0]; exact k1)
    · refine sgX5_digest_38 ⟨fun _ => ?_, fun q => absurd (geL (Nat.le_refl 4) (by decide)) q⟩
      refine Wq.up (S := PM) P (fun p _ => [some (pO 20 9 0), some (pI (nI p)), none]) (fun _ M => M) (fun p M => DgM m0 M (dgP P τ p (hf (τ 1 0) 4 (hf (cCnt E P S τ) 15 2731)))) (fun M3 k3 => ?_) (fun p M3 hp k3 ih3 => ?_) 0 M2 (by omega) k2
      · have hpp : M3.1 9 21 0 (ix 2) = nI P := by rw [ix_2, (DgM_r k3 hE hP hR0).1 2 (by decide), hI.hP]
        refine sgX5_digest_64 ⟨fun _ => ?_, fun q => absurd (by rw [hpp]; exact geL (Nat.le_refl P) (by omega)) q⟩
        exact mo_digest_134 hR0 hV hK hl0 hL e1 e2 h1 hW hB h M3 k3
      · have hpp : M3.1 9 21 0 (ix 2) = nI P := by rw [ix_2, (DgM_r k3 hE hP hR0).1 2 (by decide), hI.hP]
        refine sgX5_digest_64 ⟨fun q => absurd (by rw [hpp] at q; exact q) (ngeL hp (by omega)), fun _ => ?_⟩
        refine Wq.up (S := PM) 11 (fun w _ => [some (pO 20 9 0), some (pI (nI p)), some (pI (nI w))]) (fun _ M => M) (fun w M => DgM m0 M (hf (cPup P τ p) w (dgP P τ p (hf (τ 1 0) 4 (hf (cCnt E P S τ) 15 2731))))) (fun M4 k4 => ?_) (fun w M4 hw k4 ih4 => ?_) 0 M3 (by omega) k3
        · refine sgX5_digest_76 ⟨fun _ => ?_, fun q => absurd (geL (Nat.le_refl 11) (by decide)) q⟩
          refine Wq.up (S := PM) 3 (fun w _ => [some (pO 20 9 0), some (pI (nI p)), some (pI (nI w))]) (fun _ M => M) (fun w M => DgM m0 M (hf (fun w => cTell (fnd (cCan τ p) 160 0) w) w (hf (cPup P τ p) 11 (dgP P τ p (hf (τ 1 0) 4 (hf (cCnt E P S τ) 15 2731)))))) (fun M5 k5 => ?_) (fun w M5 hw k5 ih5 => ?_) 0 M4 (by omega) (by rw [hf_0]; exact k4)
          · refine sgX5_digest_101 ⟨fun _ => ?_, fun q => absurd (geL (Nat.le_refl 3) (by decide)) q⟩
            rw [nI_1]
            exact ih3 M5 k5
          · refine sgX5_digest_101 ⟨fun q => absurd q (ngeL hw (by decide)), fun _ => ?_⟩
            refine mo_earliestOf (DgM_r k5 hE hP hR0) hI hp ⟨rfl, rfl, ?_⟩
            dsimp only [cI]
            rw [tell_eq2 (w := w) (fun i hi => by obtain ⟨_, h2, _⟩ := fnd_some hi; omega) rfl (by omega), nI_1, k5.2.2.2.2]
            exact ih5 _ (DgM_h k5)
        · refine sgX5_digest_76 ⟨fun q => absurd q (ngeL hw (by decide)), fun _ => ?_⟩
          refine mo_pupilOf (DgM_r k4 hE hP hR0) hI (by omega) hp hw ⟨rfl, rfl, ?_⟩
          dsimp only [cI]
          rw [nI_1, k4.2.2.2.2]
          exact ih4 _ (DgM_h k4)
    · refine sgX5_digest_38 ⟨fun q => absurd q (ngeL hw (by decide)), fun _ => ?_⟩
      rw [show (5 : Int32) + nI w = nI (5 + w) from nI_add 5 w, ixn (by omega), nI_1, (DgM_r k2 hE hP hR0).2.1 w hw, k2.2.2.2.2]
      exact ⟨vp_in_nI (by omega) (by decide), ih2 _ (DgM_h k2)⟩
  · refine sgX5_digest_14 ⟨fun q => absurd q (ngeL hw (by decide)), fun _ => ?_⟩
    refine mo_counted (S := S) (DgM_r k1 hE hP hR0) hI (by rw [k1.2.1 20 (by decide) (by decide) (by decide) (by decide) (by decide) (by decide) (by decide)]; exact hS0) hw ⟨rfl, rfl, ?_⟩
    dsimp only [cI]
    rw [nI_1, k1.2.2.2.2]
    exact ih1 _ (DgM_h k1)
end D2
