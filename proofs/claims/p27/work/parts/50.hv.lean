/-! WHAT STAYS TRUE: who has a slot by his status has a cell; the day -/
def Hv (P : Nat) (τ : Nat → Nat → Nat → Int32) : Prop := ∀ p, p < P → τ 4 p 0 = 2 → ∃ i, i < 160 ∧ τ 2 0 i = nI p
section HV
variable {K E P D : Nat} {τ σ : Nat → Nat → Nat → Int32}
theorem Hv_gen (h : Hv P τ) (c : ∀ q, q < P → σ 4 q 0 = 2 → τ 4 q 0 = 2 ∧ ∀ j, j < 160 → τ 2 0 j = nI q → σ 2 0 j = nI q) : Hv P σ := fun q hq hs => by
  obtain ⟨a, b⟩ := c q hq hs
  obtain ⟨j, hj, e⟩ := h q hq a
  exact ⟨j, hj, b j hj e⟩
theorem Hv_ap (a : Ap σ τ) (h : Hv P τ) : Hv P σ := Hv_gen h fun q _ hs => by
  rw [a 4 (by decide)] at hs
  rw [a 2 (by decide)]
  exact ⟨hs, fun _ _ e => e⟩
theorem Hv_cp (c : Cp σ τ) (hP : P ≤ 12) (h : Hv P τ) : Hv P σ := Hv_gen h fun q hq hs => by
  rw [c.2.2.2.1 q (by omega) 0 (by decide)] at hs
  exact ⟨hs, fun j hj e => (c.2.2.1 j hj).trans e⟩
theorem can_free {p i : Nat} (h : cCan τ p i = true) : τ 2 0 i = -1 := by
  unfold cCan at h
  simp at h
  exact h.1
theorem Hv_step (hP : P ≤ 12) (h : Hv P τ) (p : Nat) : Hv P (gStep τ p) := by
  intro q hq hs
  unfold gStep at hs ⊢
  cases e : fnd (cCan τ p) 160 0 with
  | none =>
    rw [e] at hs
    exact h q hq hs
  | some i =>
    rw [e] at hs
    obtain ⟨_, h2, h3, _⟩ := fnd_some e
    have hf := can_free h3
    show ∃ j, j < 160 ∧ tI (tI τ 2 0 i (nI p)) 4 p 0 2 2 0 j = nI q
    by_cases z : q = p
    · subst z
      exact ⟨i, by omega, by simp (disch := omega) only [setI_eq, rset_rset, rset_s, rset_2, tI_s, tI_t, tI_j, tI_k]⟩
    · have hs' : tI (tI τ 2 0 i (nI p)) 4 p 0 2 4 q 0 = 2 := hs
      rw [tI_j z, tI_t (by decide)] at hs'
      obtain ⟨j, hj, ej⟩ := h q hq hs'
      have hji : j ≠ i := fun y => by
        subst y
        rw [hf] at ej
        exact nI_m1 (by omega) ej.symm
      exact ⟨j, hj, by rw [tI_t (by decide), tI_k hji]; exact ej⟩
theorem Hv_run {q : Nat → Nat} (hP : P ≤ 12) : ∀ {n k : Nat} {τ : Nat → Nat → Nat → Int32}, Hv P τ → Hv P (gRun q n k τ)
  | 0, _, _, h => h
  | n + 1, k, _, h => Hv_run hP (n := n) (Hv_step hP h (q k))
theorem Hv_give (hP : P ≤ 12) (h : Hv P τ) : Hv P (give P τ) := Hv_run hP h
theorem fWait_s {p : Nat} : fWait τ p 4 p 0 = 1 := by
  unfold fWait
  rw [tI_t (by decide), tI_k (by decide), tI_s]
theorem fWait_q {p q : Nat} (h : q ≠ p) : fWait τ p 4 q = τ 4 q := by
  unfold fWait
  rw [tI_t (by decide), tI_j h, tI_j h]
theorem fWait_h {p k : Nat} (h : k ≠ 3) : fWait τ p 0 0 k = τ 0 0 k := by
  unfold fWait
  rw [tI_k h, tI_t (by decide), tI_t (by decide)]
theorem Hv_ask (h : Hv P τ) (p : Nat) : Hv P (fAsk0 τ p) := Hv_gen h fun q hq hs => by
  unfold fAsk0 at *
  by_cases z : q = p
  · subst z
    rw [fWait_s] at hs
    exact absurd hs (by decide)
  · rw [fWait_q z, tI_j z, tI_j z] at hs
    refine ⟨hs, fun j hj e => ?_⟩
    rw [fWait_t (by decide) (by decide), tI_t (by decide), tI_t (by decide)]
    exact e
theorem Hv_quit (hI : Iv K E P τ) (h : Hv P τ) {p : Nat} (hp : p < P) : Hv P (fQuit0 τ p) := Hv_gen h fun q hq hs => by
  have hP := hI.P12
  unfold fQuit0 at *
  by_cases z : q = p
  · subst z
    rw [tI_k (by decide), tI_s] at hs
    exact absurd hs (by decide)
  · rw [tI_j z, tI_j z] at hs
    rw [tI_t (by decide), tI_t (by decide)]
    cases e : cCell τ (nI p) with
    | none =>
      rw [e] at hs
      exact ⟨hs, fun _ _ y => y⟩
    | some i =>
      rw [e] at hs
      have hs' : tI τ 2 0 i (-1) 4 q 0 = 2 := hs
      rw [tI_t (by decide)] at hs'
      refine ⟨hs', fun j hj ej => ?_⟩
      show tI τ 2 0 i (-1) 2 0 j = nI q
      have hji : j ≠ i := fun y => by
        subst y
        rw [(cCell_some e).2] at ej
        exact z (nI_i (by omega) (by omega) ej).symm
      rw [tI_k hji]
      exact ej
theorem Hv_mor (hI : Iv K E P τ) (h : Hv P τ) {i : Nat} (hi : i < 160) : Hv P (fMor P τ i) := Hv_gen h fun q hq hs => by
  have hP := hI.P12
  unfold fMor at *
  by_cases y : isPu P (τ 2 0 i) = true
  · rw [if_pos y] at hs ⊢
    obtain ⟨p, hp, ep⟩ := (isPu_iff hI hi).mp y
    rw [ep, ixn (by omega)] at hs ⊢
    by_cases z : q = p
    · subst z
      rw [fWait_s] at hs
      exact absurd hs (by decide)
    · rw [fWait_q z, tI_j z, tI_t (by decide)] at hs
      refine ⟨hs, fun j hj ej => ?_⟩
      rw [fWait_t (by decide) (by decide), tI_t (by decide), tI_k (fun w => z (by subst w; rw [ep] at ej; exact (nI_i (by omega) (by omega) ej).symm))]
      exact ej
  · rw [if_neg y] at hs ⊢
    rw [tI_t (by decide)] at hs
    refine ⟨hs, fun j hj ej => ?_⟩
    rw [tI_k (fun w => y (by subst w; exact (isPu_iff hI hi).mpr ⟨q, hq, ej⟩))]
    exact ej
theorem Hv_can (hI : Iv K E P τ) (hK : K + 3 < 2 ^ 31) (h : Hv P τ) {e D : Nat} (he : e < E) (hD : D < 10) : Hv P (fCan0 P τ e D) := by
  have hE := hI.E4
  have h1 := Hv_mor hI h (i := 16 * D + 4 * 0 + e) (by omega)
  have h2 := Hv_mor (fMor_Iv hI (i := 16 * D + 4 * 0 + e) (by omega) (by omega) (by omega)) h1 (i := 16 * D + 4 * 1 + e) (by omega)
  refine Hv_gen h2 fun q hq hs => ?_
  unfold fCan0 at *
  rw [tI_t (by decide)] at hs
  rw [tI_t (by decide)]
  exact ⟨hs, fun _ _ e => e⟩
theorem test_2 {p i : Nat} : fTest1 τ p i 2 = tI τ 2 0 i (-2) 2 := by unfold fTest1; rw [tI_t (by decide), tI_t (by decide), tI_t (by decide)]
theorem test_q {p i q : Nat} : fTest1 τ p i 4 q 0 = τ 4 q 0 := by unfold fTest1; rw [tI_g, if_neg (by omega), tI_g, if_neg (by omega), tI_t (by decide), tI_t (by decide)]
theorem Hv_testP (hI : Iv K E P τ) (h : Hv P τ) {p i : Nat} (hp : p < P) (ei : τ 2 0 i = nI p) : Hv P (fTestP τ p i) := Hv_gen h fun q hq hs => by
  have hP := hI.P12
  unfold fTestP at *
  by_cases z : q = p
  · subst z
    rw [tI_s] at hs
    exact absurd hs (by decide)
  · rw [tI_j z, tI_t (by decide), test_q] at hs
    refine ⟨hs, fun j hj ej => ?_⟩
    rw [tI_t (by decide), tI_t (by decide), test_2, tI_k (fun w => z (by subst w; rw [ei] at ej; exact (nI_i (by omega) (by omega) ej).symm))]
    exact ej
theorem Hv_testF (hI : Iv K E P τ) (h : Hv P τ) {p i : Nat} (hp : p < P) (ei : τ 2 0 i = nI p) : Hv P (fTestF τ p i) := Hv_gen h fun q hq hs => by
  have hP := hI.P12
  unfold fTestF at *
  by_cases z : q = p
  · subst z
    rw [tI_k (by decide), tI_s] at hs
    exact absurd hs (by decide)
  · rw [tI_j z, tI_j z, tI_j z, test_q] at hs
    refine ⟨hs, fun j hj ej => ?_⟩
    rw [tI_t (by decide), tI_t (by decide), tI_t (by decide), test_2, tI_k (fun w => z (by subst w; rw [ei] at ej; exact (nI_i (by omega) (by omega) ej).symm))]
    exact ej
theorem Hv_go (hI : Iv K E P τ) (h : Hv P τ) : Hv P (fGo0 E P τ) := fun q hq hs => by
  by_cases z : q < P ∧ inC τ 16 q = true
  · have : fGo0 E P τ 4 q 0 = 0 := by simp [fGo0, z.1, z.2]
    rw [this] at hs
    exact absurd hs (by decide)
  · have : fGo0 E P τ 4 q 0 = τ 4 q 0 := by simp [fGo0, z]
    rw [this] at hs
    obtain ⟨j, hj, e⟩ := h q hq hs
    have h16 : 16 ≤ j := Nat.not_lt.mp fun y => z ⟨hq, inC_iff.mpr ⟨j, y, e⟩⟩
    have hlt : j - 16 < 144 := by omega
    refine ⟨j - 16, by omega, ?_⟩
    have : fGo0 E P τ 2 0 (j - 16) = τ 2 0 (j - 16 + 16) := by simp [fGo0, hlt]
    rw [this, show j - 16 + 16 = j by omega]
    exact e
theorem Hv_addE (hI : Iv K E P τ) (h : Hv P τ) : Hv P (fAddE0 E τ) := Hv_gen h fun q hq hs => by
  have hP := hI.P12
  have t4 : fAddE0 E τ 4 = τ 4 := by funext j k; simp [fAddE0]
  rw [t4] at hs
  refine ⟨hs, fun j hj ej => ?_⟩
  have := hI.ceE' hq hj ej
  have t2 : fAddE0 E τ 2 0 j = τ 2 0 j := by
    have : ¬ j % 4 = E := by omega
    simp [fAddE0, this]
  rw [t2]
  exact ej
theorem Hv_addP (hI : Iv K E P τ) (hP1 : P < 12) (h : Hv P τ) : Hv (P + 1) (fAddP P τ) := fun q hq hs => by
  unfold fAddP at *
  rw [tI_g, if_neg (by omega), tI_t (by decide)] at hs
  rw [tI_t (by decide), tI_t (by decide)]
  rcases Nat.lt_succ_iff_lt_or_eq.mp hq with y | y
  · exact h q y hs
  · subst y
    rw [(hI.2.2.2.2.2.2.2.2.2.2.2.1 q (Nat.le_refl q) hP1).1] at hs
    exact absurd hs (by decide)
theorem Hv_set (h : Hv P τ) {k : Nat} {x : Int32} : Hv P (tI τ 1 0 k x) := Hv_gen h fun q hq hs => by
  rw [tI_t (by decide)] at hs
  rw [tI_t (by decide)]
  exact ⟨hs, fun _ _ e => e⟩
/-- what stays true of an office -/
def Ww (K E P D : Nat) (τ : Nat → Nat → Nat → Int32) : Prop := Vv K E P τ ∧ Hv P τ ∧ τ 0 0 0 = nI D
theorem Ww.P12 (h : Ww K E P D τ) : P ≤ 12 := h.1.1.P12
theorem Ww.E4 (h : Ww K E P D τ) : E ≤ 4 := h.1.1.E4
theorem Ww_up {K' : Nat} (hk : K ≤ K') (h : Ww K E P D τ) : Ww K' E P D τ := ⟨Vv_up hk h.1, h.2⟩
theorem Ww_ap (a : Ap σ τ) (h : Ww K E P D τ) : Ww K E P D σ := ⟨Vv_ap a h.1, Hv_ap a h.2.1, by rw [a 0 (by decide)]; exact h.2.2⟩
theorem Ww_cp (c : Cp σ τ) (h : Ww K E P D τ) : Ww K E P D σ := ⟨Cp_Vv c h.1, Hv_cp c h.P12 h.2.1, (c.1 0 (by decide)).trans h.2.2⟩
theorem give_t {t : Nat} (h2 : t ≠ 2) (h4 : t ≠ 4) : give P τ t = τ t := gRun_t h2 h4
theorem fMor_h {i : Nat} : fMor P τ i 0 0 0 = τ 0 0 0 := by
  unfold fMor
  split
  · rw [fWait_h (by decide), tI_t (by decide), tI_t (by decide)]
  · rw [tI_t (by decide)]
theorem Ww_ask (h : Ww K E P D τ) {p : Nat} (hp : p < P) (hs : τ 4 p 0 = 0) (hK : K + 3 < 2 ^ 31) : Ww (K + 4) E P D (give P (fAsk0 τ p)) := by
  refine ⟨Vv_give (Vv_up (by omega) (fAsk0_Vv h.1 hp (by omega) hs)), Hv_give h.P12 (Hv_ask h.2.1 p), ?_⟩
  rw [give_t (by decide) (by decide)]
  unfold fAsk0
  rw [fWait_h (by decide), tI_t (by decide), tI_t (by decide)]
  exact h.2.2
theorem Ww_quit (h : Ww K E P D τ) {p : Nat} (hp : p < P) : Ww K E P D (give P (fQuit0 τ p)) := by
  refine ⟨Vv_give (fQuit0_Vv h.1 hp), Hv_give h.P12 (Hv_quit h.1.1 h.2.1 hp), ?_⟩
  rw [give_t (by decide) (by decide)]
  unfold fQuit0
  rw [tI_t (by decide), tI_t (by decide)]
  cases e : cCell τ (nI p) with
  | none => exact h.2.2
  | some i =>
    show tI τ 2 0 i (-1) 0 0 0 = nI D
    rw [tI_t (by decide)]
    exact h.2.2
theorem Ww_can (h : Ww K E P D τ) {e d : Nat} (he : e < E) (hd : d < 10) (hK : K + 3 < 2 ^ 31) : Ww (K + 4) E P D (give P (fCan0 P τ e d)) := by
  refine ⟨Vv_give (fCan0_Vv h.1 he hd hK), Hv_give h.P12 (Hv_can h.1.1 hK h.2.1 he hd), ?_⟩
  rw [give_t (by decide) (by decide)]
  unfold fCan0
  rw [tI_t (by decide), fMor_h, fMor_h]
  exact h.2.2
theorem test_0 {p i : Nat} : fTest1 τ p i 0 = τ 0 := by unfold fTest1; rw [tI_t (by decide), tI_t (by decide), tI_t (by decide), tI_t (by decide)]
theorem Ww_testP (h : Ww K E P D τ) {p i : Nat} (hp : p < P) (hi : i < 160) (ei : τ 2 0 i = nI p) : Ww (K + 4) E P D (fTestP τ p i) := by
  refine ⟨Vv_up (by omega) (fTestP_Vv h.1 hp hi ei), Hv_testP h.1.1 h.2.1 hp ei, ?_⟩
  unfold fTestP
  rw [tI_t (by decide), tI_t (by decide), test_0]
  exact h.2.2
theorem Ww_testF (h : Ww K E P D τ) {p i : Nat} (hp : p < P) (hi : i < 160) (ei : τ 2 0 i = nI p) : Ww (K + 4) E P D (fTestF τ p i) := by
  refine ⟨Vv_up (by omega) (fTestF_Vv h.1 hp hi ei), Hv_testF h.1.1 h.2.1 hp ei, ?_⟩
  unfold fTestF
  rw [tI_t (by decide), tI_t (by decide), tI_t (by decide), test_0]
  exact h.2.2
theorem Ww_go (h : Ww K E P D τ) (hd : D < 9999) : Ww K E P (D + 1) (give P (fGo0 E P τ)) := by
  refine ⟨Vv_give (fGo0_Vv h.1 ⟨D, h.2.2, hd⟩), Hv_give h.P12 (Hv_go h.1.1 h.2.1), ?_⟩
  rw [give_t (by decide) (by decide)]
  have : fGo0 E P τ 0 0 0 = τ 0 0 0 + 1 := by simp [fGo0]
  rw [this, h.2.2, nI_1]
theorem Ww_addE (h : Ww K E P D τ) (hE : E < 4) : Ww K (E + 1) P D (give P (fAddE0 E τ)) := by
  refine ⟨Vv_give (fAddE0_Vv h.1 hE), Hv_give h.P12 (Hv_addE h.1.1 h.2.1), ?_⟩
  rw [give_t (by decide) (by decide)]
  have : fAddE0 E τ 0 0 0 = τ 0 0 0 := by simp [fAddE0]
  rw [this]
  exact h.2.2
theorem Ww_addP (h : Ww K E P D τ) (hP : P < 12) : Ww K E (P + 1) D (fAddP P τ) := by
  refine ⟨fAddP_Vv h.1 hP, Hv_addP h.1.1 hP h.2.1, ?_⟩
  unfold fAddP
  rw [tI_t (by decide), tI_k (by decide)]
  exact h.2.2
theorem Ww_set (h : Ww K E P D τ) {k : Nat} {x : Int32} (hx : ¬ x < 0) : Ww K E P D (tI τ 1 0 k x) := by
  refine ⟨st_Vv h.1 x hx, Hv_set h.2.1, ?_⟩
  rw [tI_t (by decide)]
  exact h.2.2
/-- who has a slot, by the status and by the cells -/
theorem Ww.st2 (h : Ww K E P D τ) {p : Nat} (hp : p < P) : τ 4 p 0 = 2 ↔ ∃ i, cCell τ (nI p) = some i := by
  constructor
  · intro hs
    obtain ⟨i, hi, e⟩ := h.2.1 p hp hs
    cases ec : cCell τ (nI p) with
    | none => exact absurd e (cCell_none ec hi)
    | some j => exact ⟨j, rfl⟩
  · rintro ⟨i, e⟩
    obtain ⟨hi, ei⟩ := cCell_some e
    exact Classical.byContradiction fun z => h.1.1.no2 hp z i hi ei
theorem Ww.st (h : Ww K E P D τ) {p : Nat} (hp : p < P) : ∃ v, τ 4 p 0 = nI v ∧ v < 4 := h.1.1.2.2.2.2.2.1 p hp
end HV
