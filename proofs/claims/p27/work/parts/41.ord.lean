/-! ORDERS CARRIED OUT -/
theorem gRun_t {q : Nat → Nat} : ∀ {n k : Nat} {τ : Nat → Nat → Nat → Int32} {t : Nat}, t ≠ 2 → t ≠ 4 → gRun q n k τ t = τ t
  | 0, _, _, _, _, _ => rfl
  | n + 1, k, τ, t, h2, h4 => by rw [gRun, gRun_t (n := n) h2 h4, gStep_t h2 h4]
theorem gStep_k {τ : Nat → Nat → Nat → Int32} {p q k : Nat} (h : k ≠ 0) : gStep τ p 4 q k = τ 4 q k := by
  unfold gStep
  cases fnd (cCan τ p) 160 0 with
  | none => rfl
  | some i =>
    show tI (tI τ 2 0 i (nI p)) 4 p 0 2 4 q k = τ 4 q k
    rw [tI_g, if_neg (fun z => h z.2.2), tI_t (by decide)]
theorem gRun_k {q : Nat → Nat} : ∀ {n k : Nat} {τ : Nat → Nat → Nat → Int32} {p f : Nat}, f ≠ 0 → gRun q n k τ 4 p f = τ 4 p f
  | 0, _, _, _, _, _ => rfl
  | n + 1, k, τ, p, f, h => by rw [gRun, gRun_k (n := n) h, gStep_k h]
/-- fees are not below 0; not more passed than were tested -/
def Xv (K E P : Nat) (τ : Nat → Nat → Nat → Int32) : Prop := ¬ τ 1 0 3 < 0 ∧ (∀ p, p < P → ¬ τ 4 p 8 < 0) ∧ ∃ V W, sI (fun e => τ 5 e 1) E = nI V ∧ sI (fun e => sI (τ 6 e) 4) E = nI W ∧ V ≤ W ∧ W ≤ K
def Vv (K E P : Nat) (τ : Nat → Nat → Nat → Int32) : Prop := Iv K E P τ ∧ Xv K E P τ
def oOk (E P : Nat) (τ : Nat → Nat → Nat → Int32) (o : Nat × Nat × Nat) : Bool :=
  if o.1 = 0 then decide (o.2.1 < P ∧ τ 4 o.2.1 0 = 0) else
  if o.1 = 1 then decide (o.2.1 < P ∧ (τ 4 o.2.1 0 = 1 ∨ τ 4 o.2.1 0 = 2)) else
  if o.1 = 2 ∨ o.1 = 3 then decide (o.2.1 < P ∧ cDay (cCell τ (nI o.2.1)) = 0) else
  if o.1 = 4 then decide (o.2.1 < E) else decide (¬ 9999 ≤ τ 0 0 0)
def oDo (E P : Nat) (τ : Nat → Nat → Nat → Int32) (o : Nat × Nat × Nat) : Nat → Nat → Nat → Int32 :=
  if o.1 = 0 then give P (fAsk0 τ o.2.1) else
  if o.1 = 1 then give P (fQuit0 τ o.2.1) else
  if o.1 = 2 then (match cCell τ (nI o.2.1) with | none => τ | some i => fTestP τ o.2.1 i) else
  if o.1 = 3 then (match cCell τ (nI o.2.1) with | none => τ | some i => fTestF τ o.2.1 i) else
  if o.1 = 4 then give P (fCan0 P τ o.2.1 o.2.2) else give P (fGo0 E P τ)
def oRun (E P : Nat) : List (Nat × Nat × Nat) → (Nat → Nat → Nat → Int32) → Nat × (Nat → Nat → Nat → Int32)
  | [], τ => (0, τ)
  | o :: l, τ => if oOk E P τ o then ((oRun E P l (oDo E P τ o)).1 + 1, (oRun E P l (oDo E P τ o)).2) else (0, τ)
section OR
variable {K E P : Nat} {τ σ : Nat → Nat → Nat → Int32}
theorem fWait_ap (a : Ap σ τ) (p : Nat) : Ap (fWait σ p) (fWait τ p) := by
  unfold fWait
  rw [a 0 (by decide)]
  exact Ap_tI (Ap_tI (Ap_tI a _ _ _ _) _ _ _ _) _ _ _ _
theorem fAsk0_ap (a : Ap σ τ) (p : Nat) : Ap (fAsk0 σ p) (fAsk0 τ p) := by
  unfold fAsk0
  rw [a 1 (by decide), a 4 (by decide)]
  exact fWait_ap (Ap_tI (Ap_tI a _ _ _ _) _ _ _ _) p
theorem cCell_ap (a : Ap σ τ) (x : Int32) : cCell σ x = cCell τ x := by
  unfold cCell
  rw [a 2 (by decide)]
theorem cBack_ap (a : Ap σ τ) (p : Nat) : cBack σ p = cBack τ p := by
  unfold cBack
  rw [cCell_ap a, a 1 (by decide), a 4 (by decide)]
theorem fQuit0_ap (a : Ap σ τ) (p : Nat) : Ap (fQuit0 σ p) (fQuit0 τ p) := by
  unfold fQuit0
  rw [cCell_ap a, cBack_ap a, a 4 (by decide)]
  refine Ap_tI (Ap_tI ?_ _ _ _ _) _ _ _ _
  cases cCell τ (nI p) with
  | none => exact a
  | some i => exact Ap_tI a _ _ _ _
theorem fMor_ap (a : Ap σ τ) (i : Nat) : Ap (fMor P σ i) (fMor P τ i) := by
  unfold fMor
  rw [a 2 (by decide), a 4 (by decide)]
  split
  · exact fWait_ap (Ap_tI (Ap_tI a _ _ _ _) _ _ _ _) _
  · exact Ap_tI a _ _ _ _
theorem fCan0_ap (a : Ap σ τ) (e D : Nat) : Ap (fCan0 P σ e D) (fCan0 P τ e D) := by
  unfold fCan0
  rw [a 5 (by decide)]
  exact Ap_tI (fMor_ap (fMor_ap a _) _) _ _ _ _
theorem fTest1_ap (a : Ap σ τ) (p i : Nat) : Ap (fTest1 σ p i) (fTest1 τ p i) := by
  unfold fTest1 cRt
  rw [a 4 (by decide), a 6 (by decide)]
  exact Ap_tI (Ap_tI (Ap_tI (Ap_tI a _ _ _ _) _ _ _ _) _ _ _ _) _ _ _ _
theorem fTestP_ap (a : Ap σ τ) (p i : Nat) : Ap (fTestP σ p i) (fTestP τ p i) := by
  unfold fTestP
  rw [a 5 (by decide)]
  exact Ap_tI (Ap_tI (fTest1_ap a p i) _ _ _ _) _ _ _ _
theorem fTestF_ap (a : Ap σ τ) (p i : Nat) : Ap (fTestF σ p i) (fTestF τ p i) := by
  unfold fTestF
  rw [a 4 (by decide), a 0 (by decide), a 1 (by decide)]
  exact Ap_tI (Ap_tI (Ap_tI (fTest1_ap a p i) _ _ _ _) _ _ _ _) _ _ _ _
theorem fGo0_ap (a : Ap σ τ) : Ap (fGo0 E P σ) (fGo0 E P τ) := by
  intro t ht
  funext j k
  unfold fGo0 cAway inC
  rw [a 0 (by decide), a 2 (by decide), a t ht]
theorem oOk_ap (a : Ap σ τ) (o : Nat × Nat × Nat) : oOk E P σ o = oOk E P τ o := by
  unfold oOk
  rw [cCell_ap a, a 4 (by decide), a 0 (by decide)]
theorem oDo_ap (a : Ap σ τ) (o : Nat × Nat × Nat) : Ap (oDo E P σ o) (oDo E P τ o) := by
  unfold oDo
  rw [cCell_ap a]
  split
  · exact give_ap (fAsk0_ap a _)
  · split
    · exact give_ap (fQuit0_ap a _)
    · split
      · cases cCell τ (nI o.2.1) with
        | none => exact a
        | some i => exact fTestP_ap a _ _
      · split
        · cases cCell τ (nI o.2.1) with
          | none => exact a
          | some i => exact fTestF_ap a _ _
        · split
          · exact give_ap (fCan0_ap a _ _)
          · exact give_ap (fGo0_ap a)
theorem oRun_ap : ∀ (l : List (Nat × Nat × Nat)) {σ τ : Nat → Nat → Nat → Int32}, Ap σ τ → (oRun E P l σ).1 = (oRun E P l τ).1 ∧ Ap (oRun E P l σ).2 (oRun E P l τ).2
  | [], _, _, a => ⟨rfl, a⟩
  | o :: l, σ, τ, a => by
    have ih := oRun_ap l (oDo_ap (E := E) (P := P) a o)
    rw [oRun, oRun, oOk_ap a]
    split
    · exact ⟨congrArg (· + 1) ih.1, ih.2⟩
    · exact ⟨rfl, a⟩
theorem Xv_ap (a : Ap σ τ) (h : Xv K E P τ) : Xv K E P σ := by
  unfold Xv at *
  rw [a 1 (by decide), a 4 (by decide), a 5 (by decide), a 6 (by decide)]
  exact h
theorem Vv_ap (a : Ap σ τ) (h : Vv K E P τ) : Vv K E P σ := ⟨Iv_ap a h.1, Xv_ap a h.2⟩
theorem Xv_up {K' : Nat} (hk : K ≤ K') (h : Xv K E P τ) : Xv K' E P τ := by
  obtain ⟨a, b, V, W, h1, h2, h3, h4⟩ := h
  exact ⟨a, b, V, W, h1, h2, h3, by omega⟩
theorem Vv_up {K' : Nat} (hk : K ≤ K') (h : Vv K E P τ) : Vv K' E P τ := ⟨Iv_up hk h.1, Xv_up hk h.2⟩
theorem Xv_cong (h : Xv K E P τ) (a1 : σ 1 0 3 = τ 1 0 3) (a4 : ∀ p, p < P → σ 4 p 8 = τ 4 p 8) (a5 : ∀ e, e < E → σ 5 e 1 = τ 5 e 1) (a6 : ∀ e, e < E → ∀ k, k < 4 → σ 6 e k = τ 6 e k) : Xv K E P σ := by
  obtain ⟨a, b, V, W, h1, h2, h3, h4⟩ := h
  refine ⟨by rw [a1]; exact a, fun p hp => by rw [a4 p hp]; exact b p hp, V, W, ?_, ?_, h3, h4⟩
  · rw [← h1]; exact sI_congr a5
  · rw [← h2]; exact sI_congr (fun e he => sI_congr (a6 e he))
theorem Xv_give (h : Xv K E P τ) : Xv K E P (give P τ) := by
  unfold give
  refine Xv_cong h ?_ (fun p _ => gRun_k (by decide)) (fun e _ => ?_) (fun e _ k _ => ?_)
  · rw [gRun_t (by decide) (by decide)]
  · rw [gRun_t (by decide) (by decide)]
  · rw [gRun_t (by decide) (by decide)]
theorem Vv_give (h : Vv K E P τ) : Vv K E P (give P τ) := ⟨give_Iv h.1, Xv_give h.2⟩
theorem fWait_8 {p q k : Nat} (h0 : k ≠ 0) (h6 : k ≠ 6) : fWait τ p 4 q k = τ 4 q k := by
  unfold fWait
  rw [tI_t (by decide), tI_g, if_neg (fun z => h6 z.2.2), tI_g, if_neg (fun z => h0 z.2.2)]
theorem fWait_t {p t : Nat} (h0 : t ≠ 0) (h4 : t ≠ 4) : fWait τ p t = τ t := by
  unfold fWait
  rw [tI_t h0, tI_t h4, tI_t h4]
theorem fAsk0_Vv (h : Vv K E P τ) {p : Nat} (hp : p < P) (hK : K < 2 ^ 31) (hs : τ 4 p 0 = 0) : Vv (K + 1) E P (fAsk0 τ p) := by
  refine ⟨fAsk0_Iv h.1 hp hK hs, Xv_up (K := K) (by omega) ?_⟩
  obtain ⟨a, b, V, W, h1, h2, h3, h4⟩ := h.2
  unfold fAsk0
  refine ⟨?_, fun q hq => ?_, V, W, ?_, ?_, h3, h4⟩
  · rw [fWait_t (by decide) (by decide)]
    simp (disch := omega) only [setI_eq, rset_rset, rset_s, rset_2, tI_s, tI_t, tI_j, tI_k]
    exact a
  · rw [fWait_8 (by decide) (by decide)]
    by_cases e : q = p
    · subst e
      simp (disch := omega) only [setI_eq, rset_rset, rset_s, rset_2, tI_s, tI_t, tI_j, tI_k]
      exact a
    · simp (disch := omega) only [setI_eq, rset_rset, rset_s, rset_2, tI_s, tI_t, tI_j, tI_k]
      exact b q hq
  · rw [fWait_t (by decide) (by decide)]
    simp (disch := omega) only [setI_eq, rset_rset, rset_s, rset_2, tI_s, tI_t, tI_j, tI_k]
    exact h1
  · rw [fWait_t (by decide) (by decide)]
    simp (disch := omega) only [setI_eq, rset_rset, rset_s, rset_2, tI_s, tI_t, tI_j, tI_k]
    exact h2
theorem fQuit0_Vv (h : Vv K E P τ) {p : Nat} (hp : p < P) : Vv K E P (fQuit0 τ p) := by
  refine ⟨fQuit0_Iv h.1 hp, Xv_cong h.2 ?_ (fun q _ => ?_) (fun e _ => ?_) (fun e _ k _ => ?_)⟩
  all_goals unfold fQuit0
  all_goals (cases cCell τ (nI p) with | none => ?_ | some i => ?_)
  all_goals first | (simp (disch := omega) only [setI_eq, rset_rset, rset_s, rset_2, tI_s, tI_t, tI_j, tI_k]; done) | (rw [tI_g, if_neg (by omega), tI_g, if_neg (by omega)]; first | done | exact congrFun (congrFun (tI_t (show 4 ≠ 2 by decide)) _) _)
theorem fMor_8 {i q : Nat} : fMor P τ i 4 q 8 = τ 4 q 8 := by
  unfold fMor
  split
  · rw [fWait_8 (by decide) (by decide), tI_g, if_neg (by omega), tI_t (by decide)]
  · simp (disch := omega) only [setI_eq, rset_rset, rset_s, rset_2, tI_s, tI_t, tI_j, tI_k]
theorem fMor_t {i t : Nat} (h0 : t ≠ 0) (h2 : t ≠ 2) (h4 : t ≠ 4) : fMor P τ i t = τ t := by
  unfold fMor
  split
  · rw [fWait_t h0 h4, tI_t h4, tI_t h2]
  · rw [tI_t h2]
theorem fCan0_Vv (h : Vv K E P τ) {e D : Nat} (he : e < E) (hD : D < 10) (hK : K + 3 < 2 ^ 31) : Vv (K + 4) E P (fCan0 P τ e D) := by
  refine ⟨fCan0_Iv h.1 he hD hK, Xv_up (by omega) (Xv_cong h.2 ?_ (fun q _ => ?_) (fun f _ => ?_) (fun f _ k _ => ?_))⟩
  all_goals unfold fCan0
  · rw [tI_t (by decide), fMor_t (by decide) (by decide) (by decide), fMor_t (by decide) (by decide) (by decide)]
  · rw [tI_t (by decide), fMor_8, fMor_8]
  · rw [tI_g, if_neg (by omega), fMor_t (by decide) (by decide) (by decide), fMor_t (by decide) (by decide) (by decide)]
  · rw [tI_t (by decide), fMor_t (by decide) (by decide) (by decide), fMor_t (by decide) (by decide) (by decide)]
theorem cLeast_lt (t : Nat → Int32) (av : Int32) : ∀ k i b, i + k ≤ 4 → b < 4 → cLeast t av k i b < 4 := by
  intro k
  induction k with
  | zero => intro i b _ hb; exact hb
  | succ k ih =>
    intro i b hi hb
    rw [cLeast]
    split
    · exact ih _ _ (by omega) hb
    · split
      · exact ih _ _ (by omega) hb
      · exact ih _ _ (by omega) (by omega)
theorem cRoute_lt (t : Nat → Int32) (av : Int32) : cRoute t av < 4 := by
  unfold cRoute
  split
  · exact cLeast_lt t av _ _ _ (by decide) (by decide)
  · exact cLeast_lt t av _ _ _ (by decide) (by decide)
theorem cRt_lt {p i : Nat} : cRt τ p i < 4 := cRoute_lt _ _
theorem sI_one {f h : Nat → Int32} {n k : Nat} (hk : k < n) (e : h k = f k + 1) (o : ∀ j, j < n → j ≠ k → h j = f j) : sI h n = sI f n + 1 := by
  have : sI h n = sI (upd f k (f k + 1)) n := sI_congr fun j hj => by
    by_cases z : j = k
    · subst z; rw [pk_us, e]
    · rw [pk_un z, o j hj z]
  rw [this, sI_upd hk]
  apply Int32.toBitVec_inj.mp
  simp only [Int32.toBitVec_add, Int32.toBitVec_sub]
  bv_omega
theorem test_6 {p i : Nat} (hi : i % 4 < E) : sI (fun e => sI (fTest1 τ p i 6 e) 4) E = sI (fun e => sI (τ 6 e) 4) E + 1 := by
  have hr := cRt_lt (τ := τ) (p := p) (i := i)
  refine sI_one (k := i % 4) hi ?_ (fun j _ hj => ?_)
  · refine sI_one (k := cRt τ p i) hr ?_ (fun j _ hj => ?_)
    · unfold fTest1; simp (disch := omega) only [setI_eq, rset_rset, rset_s, rset_2, tI_s, tI_t, tI_j, tI_k]
    · unfold fTest1; simp (disch := omega) only [setI_eq, rset_rset, rset_s, rset_2, tI_s, tI_t, tI_j, tI_k]
  · unfold fTest1; simp (disch := omega) only [setI_eq, rset_rset, rset_s, rset_2, tI_s, tI_t, tI_j, tI_k]
theorem test_5 {p i : Nat} : fTest1 τ p i 5 = τ 5 := by unfold fTest1; simp (disch := omega) only [setI_eq, rset_rset, rset_s, rset_2, tI_s, tI_t, tI_j, tI_k]
theorem test_1 {p i : Nat} : fTest1 τ p i 1 = τ 1 := by unfold fTest1; simp (disch := omega) only [setI_eq, rset_rset, rset_s, rset_2, tI_s, tI_t, tI_j, tI_k]
theorem test_8 {p i q : Nat} : fTest1 τ p i 4 q 8 = τ 4 q 8 := by
  unfold fTest1
  rw [tI_g, if_neg (by omega), tI_g, if_neg (by omega), tI_t (by decide), tI_t (by decide)]
theorem fTestP_Vv (h : Vv K E P τ) {p i : Nat} (hp : p < P) (hi : i < 160) (ei : τ 2 0 i = nI p) : Vv (K + 1) E P (fTestP τ p i) := by
  have hE := h.1.ceE' hp hi ei
  obtain ⟨a, b, V, W, h1, h2, h3, h4⟩ := h.2
  refine ⟨Iv_up (by omega) (fTestP_Iv h.1 hp hi ei), ?_⟩
  unfold fTestP
  refine ⟨?_, fun q hq => ?_, V + 1, W + 1, ?_, ?_, by omega, by omega⟩
  · simp (disch := omega) only [setI_eq, rset_rset, rset_s, rset_2, tI_s, tI_t, tI_j, tI_k, test_1]; exact a
  · rw [tI_g, if_neg (by omega), tI_t (by decide), test_8]; exact b q hq
  · rw [← nI_1, ← h1]
    refine sI_one (k := i % 4) hE ?_ (fun j _ hj => ?_)
    · simp (disch := omega) only [setI_eq, rset_rset, rset_s, rset_2, tI_s, tI_t, tI_j, tI_k, test_5]
    · simp (disch := omega) only [setI_eq, rset_rset, rset_s, rset_2, tI_s, tI_t, tI_j, tI_k, test_5]
  · simp (disch := omega) only [setI_eq, rset_rset, rset_s, rset_2, tI_s, tI_t, tI_j, tI_k]
    rw [test_6 hE, h2, nI_1]
theorem fTestF_Vv (h : Vv K E P τ) {p i : Nat} (hp : p < P) (hi : i < 160) (ei : τ 2 0 i = nI p) : Vv (K + 1) E P (fTestF τ p i) := by
  have hE := h.1.ceE' hp hi ei
  obtain ⟨a, b, V, W, h1, h2, h3, h4⟩ := h.2
  refine ⟨Iv_up (by omega) (fTestF_Iv h.1 hp hi ei), ?_⟩
  unfold fTestF
  refine ⟨?_, fun q hq => ?_, V, W + 1, ?_, ?_, by omega, by omega⟩
  · simp (disch := omega) only [setI_eq, rset_rset, rset_s, rset_2, tI_s, tI_t, tI_j, tI_k, test_1]; exact a
  · rw [tI_g, if_neg (by omega), tI_g, if_neg (by omega), tI_g, if_neg (by omega), test_8]; exact b q hq
  · simp (disch := omega) only [setI_eq, rset_rset, rset_s, rset_2, tI_s, tI_t, tI_j, tI_k, test_5]
    exact h1
  · simp (disch := omega) only [setI_eq, rset_rset, rset_s, rset_2, tI_s, tI_t, tI_j, tI_k]
    rw [test_6 hE, h2, nI_1]
theorem fGo0_Vv (h : Vv K E P τ) (hd : ∃ D, τ 0 0 0 = nI D ∧ D < 9999) : Vv K E P (fGo0 E P τ) := by
  refine ⟨fGo0_Iv h.1 hd, Xv_cong h.2 ?_ (fun q _ => ?_) (fun e _ => ?_) (fun e _ k _ => ?_)⟩
  all_goals simp [fGo0]
theorem fAddE0_Vv (h : Vv K E P τ) (hE : E < 4) : Vv K (E + 1) P (fAddE0 E τ) := by
  obtain ⟨a, b, V, W, h1, h2, h3, h4⟩ := h.2
  obtain ⟨z1, _, z3⟩ := h.1.2.2.2.2.2.2.2.2.2.2.2.2 E (Nat.le_refl E) hE
  have t1 : fAddE0 E τ 1 = τ 1 := by funext j k; simp [fAddE0]
  have t4 : fAddE0 E τ 4 = τ 4 := by funext j k; simp [fAddE0]
  have t5 : fAddE0 E τ 5 = τ 5 := by funext j k; simp [fAddE0]
  have t6 : fAddE0 E τ 6 = τ 6 := by funext j k; simp [fAddE0]
  refine ⟨fAddE0_Iv h.1 hE, by rw [t1]; exact a, by rw [t4]; exact b, V, W, ?_, ?_, h3, h4⟩
  · rw [t5, sI, z1, h1]; simp
  · rw [t6, sI, h2, sI_congr (h := fun _ => 0) z3]
    rw [show sI (fun _ => 0) 4 = 0 by decide]
    simp
theorem fAddP_Vv (h : Vv K E P τ) (hP : P < 12) : Vv K E (P + 1) (fAddP P τ) := by
  obtain ⟨a, b, V, W, h1, h2, h3, h4⟩ := h.2
  have z := h.1.2.2.2.2.2.2.2.2.2.2.2.1 P (Nat.le_refl P) hP
  refine ⟨fAddP_Iv h.1 hP, ?_⟩
  unfold fAddP
  refine ⟨by simp (disch := omega) only [setI_eq, rset_rset, rset_s, rset_2, tI_s, tI_t, tI_j, tI_k]; exact a, fun q hq => ?_, V, W, by simp (disch := omega) only [setI_eq, rset_rset, rset_s, rset_2, tI_s, tI_t, tI_j, tI_k]; exact h1, by simp (disch := omega) only [setI_eq, rset_rset, rset_s, rset_2, tI_s, tI_t, tI_j, tI_k]; exact h2, h3, h4⟩
  rw [tI_g, if_neg (by omega), tI_t (by decide)]
  rcases Nat.lt_succ_iff_lt_or_eq.mp hq with y | y
  · exact b q y
  · subst y
    rw [z.2.2.2.2.2.2.2]
    decide
theorem Cp_Vv (c : Cp σ τ) (h : Vv K E P τ) : Vv K E P σ := by
  have hE := h.1.E4
  have hP := h.1.P12
  exact ⟨Cp_Iv c h.1, Xv_cong h.2 (c.2.1 3 (by decide)) (fun p hp => c.2.2.2.1 p (by omega) 8 (by decide)) (fun e he => (c.2.2.2.2 e (by omega)).1) (fun e he => (c.2.2.2.2 e (by omega)).2.2)⟩
theorem st_Vv (h : Vv K E P τ) {k : Nat} (x : Int32) (hx : ¬ x < 0) : Vv K E P (tI τ 1 0 k x) := by
  obtain ⟨a, b, V, W, h1, h2, h3, h4⟩ := h.2
  refine ⟨Iv_h h.1 (Or.inr rfl) x, ?_, by simp (disch := omega) only [setI_eq, rset_rset, rset_s, rset_2, tI_s, tI_t, tI_j, tI_k]; exact b, V, W, by simp (disch := omega) only [setI_eq, rset_rset, rset_s, rset_2, tI_s, tI_t, tI_j, tI_k]; exact h1, by simp (disch := omega) only [setI_eq, rset_rset, rset_s, rset_2, tI_s, tI_t, tI_j, tI_k]; exact h2, h3, h4⟩
  by_cases e : 3 = k
  · subst e; rw [tI_s]; exact hx
  · rw [tI_k e]; exact a
theorem cDay_0 {p : Nat} (h : cDay (cCell τ (nI p)) = 0) : ∃ i, cCell τ (nI p) = some i ∧ i < 16 := by
  cases e : cCell τ (nI p) with
  | none => rw [e] at h; exact absurd h (by decide)
  | some i =>
    rw [e] at h
    have hi := cCell_lt e
    have := nI_i (b := 0) (by omega) (by decide) h
    exact ⟨i, rfl, by omega⟩
theorem Iv.day (h : Iv K E P τ) : ∃ D, τ 0 0 0 = nI D ∧ D ≤ 9999 := h.2.2.1
theorem oDo_Vv (h : Vv K E P τ) {o : Nat × Nat × Nat} (ho : oOk E P τ o = true) (hb : o.2.2 < 10) (hK : K + 3 < 2 ^ 31) : Vv (K + 4) E P (oDo E P τ o) := by
  unfold oOk at ho
  unfold oDo
  by_cases k0 : o.1 = 0
  · rw [if_pos k0, decide_eq_true_eq] at ho
    rw [if_pos k0]
    exact Vv_give (Vv_up (by omega) (fAsk0_Vv h ho.1 (by omega) ho.2))
  · rw [if_neg k0] at ho ⊢
    by_cases k1 : o.1 = 1
    · rw [if_pos k1, decide_eq_true_eq] at ho
      rw [if_pos k1]
      exact Vv_give (Vv_up (by omega) (fQuit0_Vv h ho.1))
    · rw [if_neg k1] at ho ⊢
      by_cases k2 : o.1 = 2
      · rw [if_pos (Or.inl k2), decide_eq_true_eq] at ho
        obtain ⟨i, e, _⟩ := cDay_0 ho.2
        rw [if_pos k2, e]
        exact Vv_up (by omega) (fTestP_Vv h ho.1 (cCell_some e).1 (cCell_some e).2)
      · rw [if_neg k2]
        by_cases k3 : o.1 = 3
        · rw [if_pos (Or.inr k3), decide_eq_true_eq] at ho
          obtain ⟨i, e, _⟩ := cDay_0 ho.2
          rw [if_pos k3, e]
          exact Vv_up (by omega) (fTestF_Vv h ho.1 (cCell_some e).1 (cCell_some e).2)
        · rw [if_neg (by rintro (z | z); exact k2 z; exact k3 z)] at ho
          rw [if_neg k3]
          by_cases k4 : o.1 = 4
          · rw [if_pos k4, decide_eq_true_eq] at ho
            rw [if_pos k4]
            exact Vv_give (fCan0_Vv h ho hb hK)
          · rw [if_neg k4, decide_eq_true_eq] at ho
            rw [if_neg k4]
            refine Vv_give (Vv_up (by omega) (fGo0_Vv h ?_))
            obtain ⟨D, hD, hD2⟩ := h.1.day
            rw [hD, show (9999 : Int32) = nI 9999 from rfl, nI_leI (by decide) (by omega)] at ho
            exact ⟨D, hD, by omega⟩
end OR
