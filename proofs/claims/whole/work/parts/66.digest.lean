/-! THE SHARE'S BITS; THE DIGEST -/
theorem setL_1 {m : PM} {k : Nat} {x : Int64} : (setL m k x).1 = m.1 := rfl
theorem setL_s {m : PM} {k : Nat} {x : Int64} : (setL m k x).2 k = x := by simp [setL, vp_updL]
theorem setL_o {m : PM} {k j : Nat} {x : Int64} (h : j ≠ k) : (setL m k x).2 j = m.2 j := by simp [setL, vp_updL, h]
def dX (x : UInt64) : Nat → UInt64
  | 0 => x
  | k + 1 => FP.dmul (dX x k) 4611686018427387904
def eX : Nat → Int64
  | 0 => 1023
  | k + 1 => eX k - 1
def eXi (k : Nat) : Int64 := 1023 - Int64.ofNat k
theorem eX_i : ∀ k, k < 41 → eX k = eXi k := by decide
theorem eX_shl : ∀ k, k < 41 → eXi k <<< (Int32.toInt64 52 &&& 63) = eXi k * 4503599627370496 := by decide
theorem eX_cmp : ∀ k, k < 41 → ¬ lg_cmp (eXi k) 1 ≤ 0 := by decide +kernel
theorem dX_D {x : UInt64} {c K : Nat} (h : D53 x c (-52 - (K : Int))) : ∀ {k : Nat}, k ≤ K → D53 (dX x k) c (-52 - ((K - k : Nat) : Int))
  | 0, _ => h
  | k + 1, hk => by
    have := (dbl_D (dX_D h (k := k) (by omega)) (by omega)).1
    rw [show -52 - ((K - k : Nat) : Int) + 1 = -52 - ((K - (k + 1) : Nat) : Int) by omega] at this
    exact this
def shV (V W : Nat) : UInt64 := if W = 0 then FP.dconst1 else FP.ddiv (FP.i2d (nI V)) (FP.i2d (nI W))
theorem sh_cases {V W : Nat} (hVW : V ≤ W) (hW : W < 2 ^ 31) : shV V W = 0 ∨ ∃ c K : Nat, D53 (shV V W) c (-52 - (K : Int)) ∧ K ≤ 40 := by
  unfold shV
  by_cases w0 : W = 0
  · rw [if_pos w0]
    exact Or.inr ⟨_, 0, one_D, by decide⟩
  · rw [if_neg w0]
    by_cases v0 : V = 0
    · subst v0
      exact Or.inl (div_0 w0 hW)
    · exact Or.inr (div_D v0 hVW hW)
theorem sh_self {V W : Nat} (hVW : V ≤ W) (hW : W < 2 ^ 31) : FP.dcmp (shV V W) (shV V W) = some .eq := by
  rcases sh_cases hVW hW with z | ⟨c, K, h, _⟩
  · rw [z]; decide +kernel
  · exact self_D h.1
theorem bits_both {V W : Nat} (hVW : V ≤ W) (hW : W < 2 ^ 31) : ∃ B : Int64, (∀ {g : GG} {d c n : Nat} {m : PM} {Q : Ou → PM → Nat → Nat → Prop}, Q (.inl (some (pL B))) m c n → Wq g d MX4_bitsOf c n 0 [some (pD (shV V W)), none] [] m Q) ∧ (∀ {g : GG} {d c n : Nat} {m : PM} {Q : Ou → PM → Nat → Nat → Prop}, Q (.inl (some (pL B))) m c n → Wq g d MX5_bitsOfShare c n 0 [some (pD (shV V W)), none] [] m Q) := by
  rcases sh_cases hVW hW with z | ⟨c, K, h, hK⟩
  · rw [z]
    refine ⟨0, fun hq => ?_, fun hq => ?_⟩
    · exact sgX4_bitsOf ⟨fun y => absurd y (by decide +kernel), fun _ => hq⟩
    · exact sgX5_bitsOfShare ⟨fun y => absurd (show Op.cmpValue (FP.dcmp 0 FP.dconst0) CmpOp.l = 0 by decide +kernel) y, fun _ => hq⟩
  · generalize shV V W = x at *
    obtain ⟨p1, p2⟩ := pos_D h
    have hKK := dX_D h (Nat.le_refl K)
    rw [Nat.sub_self] at hKK
    obtain ⟨n1, n2⟩ := sub_n hKK
    refine ⟨eXi K * 4503599627370496 + FP.d2l (FP.dmul (FP.dsub (dX x K) FP.dconst1) 4841369599423283200), fun {g d c' n m Q} hq => ?_, fun {g d c' n m Q} hq => ?_⟩
    · refine sgX4_bitsOf ⟨fun _ => ?_, fun y => absurd (by rw [p1]; decide) y⟩
      refine Wq.up (S := Unit) K (fun k _ => [none, none, some (pD (dX x k)), none, some (pL (eX k)), none, none, none]) (fun _ _ => m) (fun _ _ => True) (fun _ _ => ?_) (fun k _ hk _ ih => ?_) 0 () (by omega) trivial
      · refine sgX4_bitsOf_15 ⟨fun _ => ⟨n1, n2, ?_⟩, fun y => absurd ((cmp_1 hKK).mpr rfl) y⟩
        rw [eX_i K (by omega), eX_shl K (by omega)]
        exact hq
      · have hd := dX_D h (k := k) (by omega)
        refine sgX4_bitsOf_15 ⟨fun y => absurd ((cmp_1 hd).mp y) (by omega), fun _ => ⟨fun y => absurd y (by rw [eX_i k (by omega)]; exact eX_cmp k (by omega)), fun _ => ⟨(dbl_D hd (by omega)).2, ih () trivial⟩⟩⟩
    · refine sgX5_bitsOfShare ⟨fun _ => ?_, fun y => absurd y (by rw [p2]; decide)⟩
      refine Wq.up (S := Unit) K (fun k _ => [none, none, some (pL (eX k)), none, some (pD (dX x k)), none]) (fun _ _ => m) (fun _ _ => True) (fun _ _ => ?_) (fun k _ hk _ ih => ?_) 0 () (by omega) trivial
      · refine sgX5_bitsOfShare_15 ⟨fun _ => ⟨n1, n2, ?_⟩, fun y => absurd ((cmp_1 hKK).mpr rfl) y⟩
        rw [eX_i K (by omega)]
        exact hq
      · have hd := dX_D h (k := k) (by omega)
        exact sgX5_bitsOfShare_15 ⟨fun y => absurd ((cmp_1 hd).mp y) (by omega), fun _ => ⟨(dbl_D hd (by omega)).2, ih () trivial⟩⟩
def hs (h : Int64) (v : Int32) : Int64 := (31 * h) + Int32.toInt64 v
def hf (f : Nat → Int32) : Nat → Int64 → Int64
  | 0, h => h
  | n + 1, h => hs (hf f n h) (f n)
def dgP (P : Nat) (τ : Nat → Nat → Nat → Int32) : Nat → Int64 → Int64
  | 0, h => h
  | p + 1, h => hf (fun w => cTell (fnd (cCan τ p) 160 0) w) 3 (hf (cPup P τ p) 11 (dgP P τ p h))
def dgE1 (P : Nat) (τ : Nat → Nat → Nat → Int32) (e : Nat) (h : Int64) : Int64 := hf (fun j => cIf P τ e (j / 3) (j % 3)) 6 (hf (fun j => τ 2 0 (4 * j + e)) 40 (hf (cExa τ e) 9 h))
def dgE2 (P : Nat) (τ : Nat → Nat → Nat → Int32) (e : Nat) (h : Int64) : Int64 := if P = 0 then dgE1 P τ e h else hs (dgE1 P τ e h) (nI (cRoute (τ 6 e) (τ 4 0 3)))
def dgE (P : Nat) (τ : Nat → Nat → Nat → Int32) : Nat → Int64 → Int64
  | 0, h => h
  | e + 1, h => dgE2 P τ e (dgE P τ e h)
def dgA (E P S : Nat) (τ : Nat → Nat → Nat → Int32) (T : Nat → Int32) (L : Nat) (B : Int64) : Int64 := hf T L (hs ((31 * (hs (hs (hs (dgE P τ E (dgP P τ P (hf (τ 1 0) 4 (hf (cCnt E P S τ) 15 2731)))) (nI (cMost τ E P 0 16))) (nI (cMost τ E P 1 16))) (nI (cMost τ E P 5 16)))) + B) (nI L))
section DG
variable {g : GG} {d : Nat} {c n : Nat} {m : PM} {Q : Ou → PM → Nat → Nat → Prop} {K E P S L V W : Nat} {B : Int64}
theorem co_passedShare (hV : Vv K E P (m.1 0)) (hK : K < 2 ^ 31) (h : ∀ V W, V ≤ W → W ≤ K → sI (fun e => (m.1 0) 5 e 1) E = nI V → sI (fun e => sI ((m.1 0) 6 e) 4) E = nI W → Q (.inl (some (pD (shV V W)))) m c n) : Wq g (d + 2) MX4_passedShare c n 0 [some (pO 10 8 0)] [] m Q := by
  obtain ⟨V, W, e1, e2, h1, h2⟩ := hV.2.2.2
  have h' := h V W h1 h2 e1 e2
  unfold shV at h'
  refine sgX4_passedShare (co_testsSoFar hV.1.hE hV.1.E4 ⟨rfl, rfl, ?_⟩)
  dsimp only [cI]
  rw [e2]
  have w0 : nI W = 0 ↔ W = 0 := ⟨fun z => nI_i (by omega) (by decide) (show nI W = nI 0 from z), fun z => by rw [z]; rfl⟩
  rw [w0]
  refine ⟨fun q => co_passedSoFar hV.1.hE hV.1.E4 ⟨rfl, rfl, ?_⟩, fun q => ?_⟩
  · dsimp only [cI]
    rw [e1]
    rw [if_neg q] at h'
    exact ⟨div_n q (by omega) (by omega), h'⟩
  · rw [if_pos q] at h'
    exact h'
theorem mo_share {τ : Nat → Nat → Nat → Int32} (hR : Rel E P τ (m.1 9 21 0)) (hI : Iv K E P τ) (e1 : sI (fun e => τ 5 e 1) E = nI V) (e2 : sI (fun e => sI (τ 6 e) 4) E = nI W) (h1 : V ≤ W) (hW : W < 2 ^ 31) (h : Q (.inl (some (pD (shV V W)))) m c n) : Wq g (d + 3) MX5_share c n 0 [some (pO 20 9 0)] [] m Q := by
  have h' := h
  unfold shV at h'
  refine sgX5_share (mo_sumOfExaminers (w := 0) hR hI (by decide) ⟨rfl, rfl, ?_⟩)
  dsimp only [cI]
  rw [show sI (fun e => cExa τ e 0) E = nI W from e2]
  have w0 : nI W = 0 ↔ W = 0 := ⟨fun z => nI_i (by omega) (by decide) (show nI W = nI 0 from z), fun z => by rw [z]; rfl⟩
  rw [w0]
  refine ⟨fun q => mo_sumOfExaminers (w := 1) hR hI (by decide) ⟨rfl, rfl, ?_⟩, fun q => ?_⟩
  · dsimp only [cI]
    rw [show sI (fun e => cExa τ e 1) E = nI V from e1]
    rw [if_neg q] at h'
    exact ⟨div_n q (by omega) (by omega), h'⟩
  · rw [if_pos q] at h'
    exact h'
theorem co_hashWithPupil {p : Nat} {x : Int64} (hV : Vv K E P (m.1 0)) (hp : p < P) (h : Q (.inl (some (pL (hf (fun w => cTell (fnd (cCan (m.1 0) p) 160 0) w) 3 (hf (cPup P (m.1 0) p) 11 x))))) m c n) : Wq g (d + 8) MX4_hashWithPupil c n 0 [some (pO 10 8 0), some (pL x), none, some (pI (nI p))] [] m Q := by
  have hP := hV.1.P12
  have own : ∀ {q : Nat} {y : Int64}, q < P → nI p = nI q → p = q := fun hq e => nI_i (by omega) (by omega) e
  refine sgX4_hashWithPupil ?_
  refine Wq.up (S := Unit) 11 (fun w _ => [some (pO 10 8 0), none, none, some (pI (nI p)), some (pL (hf (cPup P (m.1 0) p) w x)), none, some (pI (nI w))]) (fun _ _ => m) (fun _ _ => True) (fun _ _ => ?_) (fun w _ hw _ ih => ?_) 0 () (by omega) trivial
  · refine sgX4_hashWithPupil_6 ⟨fun _ => ?_, fun q => absurd (by decide) q⟩
    refine Wq.up (S := Unit) 3 (fun w _ => [some (pO 10 8 0), none, none, some (pI (nI p)), some (pL (hf (fun w => cTell (fnd (cCan (m.1 0) p) 160 0) w) w (hf (cPup P (m.1 0) p) 11 x))), none, some (pI (nI w))]) (fun _ _ => m) (fun _ _ => True) (fun _ _ => ?_) (fun w _ hw _ ih => ?_) 0 () (by omega) trivial
    · exact sgX4_hashWithPupil_37 ⟨fun _ => h, fun q => absurd (by decide) q⟩
    · have nl : ¬ (2 : Int32) < nI w := by
        rw [show (2 : Int32) = nI 2 from rfl, ← Int32.not_le, nI_leI (by omega) (by omega)]
        omega
      refine sgX4_hashWithPupil_37 ⟨fun q => absurd q nl, fun _ => co_earliest hV (fun z => absurd ⟨p, hp, rfl⟩ z) (fun q hq e z => absurd ⟨w, by omega, rfl⟩ z) (fun q v hq e1 hv e2 => ⟨rfl, rfl, ?_⟩)⟩
      have a1 := nI_i (by omega) (by omega) e1
      have a2 := nI_i (by omega) (by omega) e2
      subst a1 a2
      dsimp only [cI]
      rw [nI_1]
      exact ih () trivial
  · have nl : ¬ (10 : Int32) < nI w := by
      rw [show (10 : Int32) = nI 10 from rfl, ← Int32.not_le, nI_leI (by omega) (by omega)]
      omega
    refine sgX4_hashWithPupil_6 ⟨fun q => absurd q nl, fun _ => co_pupil hV (fun z => absurd ⟨p, hp, rfl⟩ z) (fun q hq e z => absurd ⟨w, by omega, rfl⟩ z) (fun q v hq e1 hv e2 => ⟨rfl, rfl, ?_⟩)⟩
    have a1 := nI_i (by omega) (by omega) e1
    have a2 := nI_i (by omega) (by omega) e2
    subst a1 a2
    dsimp only [cI]
    rw [nI_1]
    exact ih () trivial
theorem co_hwE_85 {e : Nat} {y : Int64} (hV : Vv K E P (m.1 0)) (hK : K + 3 < 2 ^ 31) (he : e < E) (h : ∀ σ, Q (.inl (some (pL (if P = 0 then hf (fun j => cIf P (m.1 0) e (j / 3) (j % 3)) 6 y else hs (hf (fun j => cIf P (m.1 0) e (j / 3) (j % 3)) 6 y) (nI (cRoute ((m.1 0) 6 e) ((m.1 0) 4 0 3))))))) (rset m 1 σ) c n) : Wq g (d + 8) MX4_hashWithExaminer c n 85 [some (pO 10 8 0), none, none, some (pI (nI e)), some (pL y), none, some (pI 0), none] [] m Q := by
  have hP := hV.1.P12
  have hE := hV.1.E4
  have key := Wq.up (g := g) (d := d + 8) (M := MX4_hashWithExaminer) (c := c) (n := n) (pc := 85) (Q := Q) (S := Nat → Nat → Nat → Int32) 2 (fun D _ => [some (pO 10 8 0), none, none, some (pI (nI e)), some (pL (hf (fun j => cIf P (m.1 0) e (j / 3) (j % 3)) (3 * D) y)), none, some (pI (nI D)), none]) (fun _ σ => rset m 1 σ) (fun _ _ => True) (fun σ _ => ?_) (fun D σ hD _ ih => ?_) 0 (m.1 1) (by omega) trivial
  · rw [rset_id] at key
    exact key
  · have e0 : (rset m 1 σ).1 0 = m.1 0 := rset_n (by decide)
    rw [show 3 * 2 = 6 from rfl]
    refine sgX4_hashWithExaminer_85 ⟨fun _ => ?_, fun q => absurd (show (1 : Int32) < nI 2 by decide) q⟩
    have h' := h σ
    rw [e0, hV.1.hP]
    by_cases p0 : P = 0
    · subst p0
      rw [if_pos rfl] at h'
      exact ⟨fun _ => h', fun q => absurd (Int32.le_refl _) q.2⟩
    · rw [if_neg p0] at h'
      have yes : (¬ (0 : Int32) < 0) ∧ ¬ nI P ≤ 0 := ⟨by decide, by rw [show (0 : Int32) = nI 0 from rfl, nI_leI (by omega) (by omega)]; omega⟩
      refine ⟨fun q => absurd yes q, fun _ => ?_⟩
      refine co_ifTested (K := K) (E := E) (P := P) (m := rset m 1 σ) (by rw [e0]; exact hV) (fun z => absurd ⟨⟨0, by omega, rfl⟩, e, he, rfl⟩ z) (fun p e' hp e1 he' e2 => ⟨rfl, rfl, ?_⟩)
      have a1 : p = 0 := (nI_i (by omega) (by omega) (show nI 0 = nI p from e1)).symm
      have a2 : e' = e := (nI_i (by omega) (by omega) e2).symm
      rw [a1, a2]
      dsimp only [cI]
      rw [e0]
      exact h'
  · have nl : ¬ (1 : Int32) < nI D := by
      rw [show (1 : Int32) = nI 1 from rfl, ← Int32.not_le, nI_leI (by omega) (by omega)]
      omega
    refine sgX4_hashWithExaminer_85 ⟨fun q => absurd q nl, fun _ => ?_⟩
    refine Wq.up (S := Nat → Nat → Nat → Int32) 3 (fun w _ => [some (pO 10 8 0), none, none, some (pI (nI e)), some (pL (hf (fun j => cIf P (m.1 0) e (j / 3) (j % 3)) (3 * D + w) y)), none, some (pI (nI D)), some (pI (nI w))]) (fun _ σ => rset m 1 σ) (fun _ _ => True) (fun σ _ => ?_) (fun w σ hw _ ih2 => ?_) 0 σ (by omega) trivial
    · refine sgX4_hashWithExaminer_94 ⟨fun _ => ?_, fun q => absurd (show (2 : Int32) < nI 3 by decide) q⟩
      rw [nI_1]
      exact ih σ trivial
    · have e0 : (rset m 1 σ).1 0 = m.1 0 := rset_n (by decide)
      have nl : ¬ (2 : Int32) < nI w := by
        rw [show (2 : Int32) = nI 2 from rfl, ← Int32.not_le, nI_leI (by omega) (by omega)]
        omega
      refine sgX4_hashWithExaminer_94 ⟨fun q => absurd q nl, fun _ => ?_⟩
      refine co_ifCancelled (K := K) (E := E) (P := P) (m := rset m 1 σ) (by rw [e0]; exact hV) hK (fun z => absurd ⟨e, he, rfl⟩ z) (fun q hq e1 z => absurd ⟨⟨D, by omega, rfl⟩, w, by omega, rfl⟩ z) (fun q D' w' hq e1 hD' e2 hw' e3 τ1 => ⟨rfl, rfl, ?_⟩)
      have a1 : q = e := (nI_i (by omega) (by omega) e1).symm
      have a2 : D' = D := (nI_i (by omega) (by omega) e2).symm
      have a3 : w' = w := (nI_i (by omega) (by omega) e3).symm
      rw [a1, a2, a3]
      dsimp only [cI]
      rw [nI_1, rset_rset, e0]
      have := ih2 τ1 trivial
      rw [show 3 * D + (w + 1) = (3 * D + w) + 1 by omega, hf, show (3 * D + w) / 3 = D by omega, show (3 * D + w) % 3 = w by omega] at this
      exact this
theorem co_hwE_37 {e : Nat} {y : Int64} (hV : Vv K E P (m.1 0)) (he : e < E) (h : Wq g (d + 8) MX4_hashWithExaminer c n 85 [some (pO 10 8 0), none, none, some (pI (nI e)), some (pL (hf (fun j => m.1 0 2 0 (4 * j + e)) 40 y)), none, some (pI 0), none] [] m Q) : Wq g (d + 8) MX4_hashWithExaminer c n 37 [some (pO 10 8 0), none, none, some (pI (nI e)), some (pL y), none, some (pI 0), none] [] m Q := by
  have hE := hV.1.E4
  refine Wq.up (S := Unit) 10 (fun D _ => [some (pO 10 8 0), none, none, some (pI (nI e)), some (pL (hf (fun j => m.1 0 2 0 (4 * j + e)) (4 * D) y)), none, some (pI (nI D)), none]) (fun _ _ => m) (fun _ _ => True) (fun _ _ => ?_) (fun D _ hD _ ih => ?_) 0 () (by omega) trivial
  · rw [show 4 * 10 = 40 from rfl]
    exact sgX4_hashWithExaminer_37 ⟨fun _ => h, fun q => absurd (geL (Nat.le_refl 10) (by decide)) q⟩
  · refine sgX4_hashWithExaminer_37 ⟨fun q => absurd q (ngeL hD (by decide)), fun _ => ?_⟩
    refine Wq.up (S := Unit) 4 (fun k _ => [some (pO 10 8 0), none, none, some (pI (nI e)), some (pL (hf (fun j => m.1 0 2 0 (4 * j + e)) (4 * D + k) y)), none, some (pI (nI D)), some (pI (nI k))]) (fun _ _ => m) (fun _ _ => True) (fun _ _ => ?_) (fun k _ hk _ ih2 => ?_) 0 () (by omega) trivial
    · refine sgX4_hashWithExaminer_47 ⟨fun _ => ?_, fun q => absurd (geL (Nat.le_refl 4) (by decide)) q⟩
      rw [nI_1]
      exact ih () trivial
    · refine sgX4_hashWithExaminer_47 ⟨fun q => absurd q (ngeL hk (by decide)), fun _ => ?_⟩
      refine co_slot hV (fun z => absurd ⟨e, he, rfl⟩ z) (fun q hq e1 z => absurd ⟨⟨D, by omega, rfl⟩, k, by omega, rfl⟩ z) (fun q D' k' hq e1 hD' e2 hk' e3 => ⟨rfl, rfl, ?_⟩)
      have a1 : q = e := (nI_i (by omega) (by omega) e1).symm
      have a2 : D' = D := (nI_i (by omega) (by omega) e2).symm
      have a3 : k' = k := (nI_i (by omega) (by omega) e3).symm
      rw [a1, a2, a3]
      dsimp only [cI]
      rw [nI_1]
      have := ih2 () trivial
      rw [show 4 * D + (k + 1) = (4 * D + k) + 1 by omega, hf, show 4 * (4 * D + k) + e = 16 * D + 4 * k + e by omega] at this
      exact this
theorem co_hashWithExaminer {e : Nat} {x : Int64} (hV : Vv K E P (m.1 0)) (hK : K + 3 < 2 ^ 31) (he : e < E) (h : ∀ σ, Q (.inl (some (pL (dgE2 P (m.1 0) e x)))) (rset m 1 σ) c n) : Wq g (d + 8) MX4_hashWithExaminer c n 0 [some (pO 10 8 0), some (pL x), none, some (pI (nI e))] [] m Q := by
  have hE := hV.1.E4
  refine sgX4_hashWithExaminer ?_
  refine Wq.up (S := Unit) 9 (fun w _ => [some (pO 10 8 0), none, none, some (pI (nI e)), some (pL (hf (cExa (m.1 0) e) w x)), none, some (pI (nI w)), none]) (fun _ _ => m) (fun _ _ => True) (fun _ _ => ?_) (fun w _ hw _ ih => ?_) 0 () (by omega) trivial
  · refine sgX4_hashWithExaminer_6 ⟨fun _ => ?_, fun q => absurd (show (8 : Int32) < nI 9 by decide) q⟩
    refine co_hwE_37 hV he (co_hwE_85 hV hK he fun σ => ?_)
    have h' := h σ
    unfold dgE2 dgE1 at h'
    exact h'
  · have nl : ¬ (8 : Int32) < nI w := by
      rw [show (8 : Int32) = nI 8 from rfl, ← Int32.not_le, nI_leI (by omega) (by omega)]
      omega
    refine sgX4_hashWithExaminer_6 ⟨fun q => absurd q nl, fun _ => co_examiner hV (fun z => absurd ⟨e, he, rfl⟩ z) (fun q hq e1 z => absurd ⟨w, by omega, rfl⟩ z) (fun q v hq e1 hv e2 => ⟨rfl, rfl, ?_⟩)⟩
    have a1 : q = e := (nI_i (by omega) (by omega) e1).symm
    have a2 : v = w := (nI_i (by omega) (by omega) e2).symm
    rw [a1, a2]
    dsimp only [cI]
    rw [nI_1]
    exact ih () trivial
end DG
