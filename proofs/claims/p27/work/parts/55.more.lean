/-! WHAT GIVING OUT LEAVES AS IT WAS -/
section GV
variable {K E P D : Nat} {τ σ : Nat → Nat → Nat → Int32}
theorem step_cell {q j : Nat} (h : ¬ τ 2 0 j = -1) : gStep τ q 2 0 j = τ 2 0 j := by
  unfold gStep
  cases e : fnd (cCan τ q) 160 0 with
  | none => rfl
  | some i =>
    obtain ⟨_, _, h3, _⟩ := fnd_some e
    have hf := can_free h3
    show tI (tI τ 2 0 i (nI q)) 4 q 0 2 2 0 j = τ 2 0 j
    rw [tI_t (by decide), tI_k (fun z => h (by subst z; exact hf))]
theorem run_cell {q : Nat → Nat} {j : Nat} : ∀ {n k : Nat} {τ : Nat → Nat → Nat → Int32}, ¬ τ 2 0 j = -1 → gRun q n k τ 2 0 j = τ 2 0 j
  | 0, _, _, _ => rfl
  | n + 1, k, τ, h => by
    have e := step_cell (q := q k) h
    rw [gRun, run_cell (n := n) (by rw [e]; exact h), e]
theorem give_cell {j : Nat} (h : ¬ τ 2 0 j = -1) : give P τ 2 0 j = τ 2 0 j := run_cell h
theorem step_12 {p q : Nat} (h : τ 4 p 0 = 1 ∨ τ 4 p 0 = 2) : gStep τ q 4 p 0 = 1 ∨ gStep τ q 4 p 0 = 2 := by
  by_cases z : p = q
  · subst z
    unfold gStep
    cases e : fnd (cCan τ p) 160 0 with
    | none => exact h
    | some i =>
      refine Or.inr ?_
      show tI (tI τ 2 0 i (nI p)) 4 p 0 2 4 p 0 = 2
      exact tI_s
  · rw [gStep_o z]
    exact h
theorem run_12 {q : Nat → Nat} {p : Nat} : ∀ {n k : Nat} {τ : Nat → Nat → Nat → Int32}, (τ 4 p 0 = 1 ∨ τ 4 p 0 = 2) → gRun q n k τ 4 p 0 = 1 ∨ gRun q n k τ 4 p 0 = 2
  | 0, _, _, h => h
  | n + 1, k, _, h => run_12 (n := n) (step_12 (q := q k) h)
theorem give_12 {p : Nat} (h : τ 4 p 0 = 1) : give P τ 4 p 0 = 1 ∨ give P τ 4 p 0 = 2 := run_12 (Or.inl h)
theorem run_o {q : Nat → Nat} {p : Nat} : ∀ {n k : Nat} {τ : Nat → Nat → Nat → Int32}, (∀ j, k ≤ j → j < k + n → q j ≠ p) → gRun q n k τ 4 p = τ 4 p
  | 0, _, _, _ => rfl
  | n + 1, k, τ, h => by
    rw [gRun, run_o (n := n) (fun j a b => h j (by omega) (by omega)), gStep_o (fun z => h k (Nat.le_refl k) (by omega) z.symm)]
theorem give_idle (hd : Dw P τ) {p : Nat} (h : ¬ τ 4 p 0 = 1) : give P τ 4 p = τ 4 p := by
  unfold give
  refine run_o fun j _ hj z => h ?_
  obtain ⟨_, b, _⟩ := ord2 hd (k := j) (by omega)
  rw [z] at b
  unfold wt at b
  rw [decide_eq_true_eq] at b
  exact b
/-- who can have no cell can have none behind a step -/
theorem step_can {p q i : Nat} (h : cCan (gStep τ q) p i = true) : cCan τ p i = true := by
  have f := can_free h
  have c : τ 2 0 i = -1 := Classical.byContradiction fun z => z ((step_cell (q := q) z).symm.trans f)
  unfold cCan cCome cMeet at h ⊢
  rw [gStep_t (t := 0) (by decide) (by decide), gStep_t (t := 1) (by decide) (by decide), gStep_k (k := 2) (by decide), gStep_k (k := 4) (by decide)] at h
  rw [c]
  rw [f] at h
  exact h
theorem step_none {p q : Nat} (h : fnd (cCan τ p) 160 0 = none) : fnd (cCan (gStep τ q) p) 160 0 = none := by
  rw [fnd_none] at h ⊢
  intro j a b
  exact Bool.eq_false_iff.mpr fun z => by
    have := step_can z
    rw [h j a b] at this
    cases this
theorem run_none {q : Nat → Nat} {p : Nat} : ∀ {n k : Nat} {τ : Nat → Nat → Nat → Int32}, fnd (cCan τ p) 160 0 = none → fnd (cCan (gRun q n k τ) p) 160 0 = none
  | 0, _, _, h => h
  | n + 1, k, _, h => run_none (n := n) (step_none (q := q k) h)
theorem run_wait {q : Nat → Nat} {p : Nat} (hp : p < 12) : ∀ {n k : Nat} {τ : Nat → Nat → Nat → Int32}, (∃ j, k ≤ j ∧ j < k + n ∧ q j = p) → cCell (gRun q n k τ) (nI p) = none → fnd (cCan (gRun q n k τ) p) 160 0 = none
  | 0, k, _, h, _ => by obtain ⟨j, a, b, _⟩ := h; omega
  | n + 1, k, τ, h, hc => by
    rw [gRun] at hc ⊢
    by_cases z : q k = p
    · rw [z] at hc ⊢
      cases e : fnd (cCan τ p) 160 0 with
      | none => exact run_none (step_none e)
      | some i =>
        obtain ⟨_, h2, _, _⟩ := fnd_some e
        have s : gStep τ p 2 0 i = nI p := by
          unfold gStep
          rw [e]
          show tI (tI τ 2 0 i (nI p)) 4 p 0 2 2 0 i = nI p
          rw [tI_t (by decide), tI_s]
        have r := run_cell (q := q) (n := n) (k := k + 1) (τ := gStep τ p) (j := i) (by rw [s]; exact nI_m1 (by omega))
        exact absurd (r.trans s) (cCell_none hc (by omega))
    · obtain ⟨j, a, b, c⟩ := h
      have : j ≠ k := fun y => z (by subst y; exact c)
      exact run_wait hp (n := n) ⟨j, by omega, by omega, c⟩ hc
theorem give_wait (hd : Dw P τ) (hP : P ≤ 12) {p : Nat} (hp : p < P) (hw : τ 4 p 0 = 1) (hc : cCell (give P τ) (nI p) = none) : fnd (cCan (give P τ) p) 160 0 = none := by
  have hw' : wt τ p = true := by unfold wt; rw [decide_eq_true_eq]; exact hw
  have := ord1 hp hw'
  exact run_wait (by omega) ⟨cPlace τ P p, Nat.zero_le _, by omega, ord4 hd hp hw'⟩ hc
/-- a cancelled morning -/
theorem mor_1 {p i : Nat} (h : τ 4 p 0 = 1) : fMor P τ i 4 p 0 = 1 := by
  unfold fMor
  split
  · by_cases z : p = ix (τ 2 0 i)
    · rw [← z]; exact fWait_s
    · rw [fWait_q z, tI_j z, tI_t (by decide)]; exact h
  · rw [tI_t (by decide)]; exact h
theorem mor_s {p i : Nat} (hP : P ≤ 12) (hp : p < P) (h : τ 2 0 i = nI p) : fMor P τ i 4 p 0 = 1 := by
  unfold fMor
  have : isPu P (τ 2 0 i) = true := by
    unfold isPu
    rw [decide_eq_true_eq, h]
    exact (hasN hP (by omega)).mpr hp
  rw [if_pos this, h, ixn (by omega)]
  exact fWait_s
theorem mor_c {i j : Nat} (h : j ≠ i) : fMor P τ i 2 0 j = τ 2 0 j := by
  unfold fMor
  split
  · rw [fWait_t (by decide) (by decide), tI_t (by decide), tI_k h]
  · rw [tI_k h]
theorem mor_i {i : Nat} : fMor P τ i 2 0 i = -2 := by
  unfold fMor
  split
  · rw [fWait_t (by decide) (by decide), tI_t (by decide), tI_s]
  · rw [tI_s]
theorem can_closed {e b k : Nat} (hk : k < 2) : give P (fCan0 P τ e b) 2 0 (16 * b + 4 * k + e) = -2 := by
  have h : fCan0 P τ e b 2 0 (16 * b + 4 * k + e) = -2 := by
    unfold fCan0
    rw [tI_t (by decide)]
    rcases (by omega : k = 0 ∨ k = 1) with z | z
    · subst z
      rw [mor_c (by omega)]
      exact mor_i
    · subst z
      exact mor_i
  rw [give_cell (by rw [h]; decide), h]
theorem can_12 {e b k p : Nat} (hk : k < 2) (hP : P ≤ 12) (hp : p < P) (h : τ 2 0 (16 * b + 4 * k + e) = nI p) : give P (fCan0 P τ e b) 4 p 0 = 1 ∨ give P (fCan0 P τ e b) 4 p 0 = 2 := by
  refine give_12 ?_
  unfold fCan0
  rw [tI_t (by decide)]
  rcases (by omega : k = 0 ∨ k = 1) with z | z
  · subst z
    exact mor_1 (mor_s hP hp h)
  · subst z
    exact mor_s hP hp (by rw [mor_c (by omega)]; exact h)
/-- asking, giving back -/
theorem ask_k {p : Nat} : give P (fAsk0 τ p) 4 p 7 = τ 4 p 7 + τ 1 0 3 ∧ give P (fAsk0 τ p) 4 p 8 = τ 1 0 3 := by
  unfold give fAsk0
  rw [gRun_k (by decide), gRun_k (by decide), fWait_8 (by decide) (by decide), fWait_8 (by decide) (by decide)]
  exact ⟨tI_s, by rw [tI_k (by decide), tI_s]⟩
theorem ask_1 {p : Nat} : give P (fAsk0 τ p) 1 = τ 1 := by
  rw [give_t (by decide) (by decide)]
  unfold fAsk0
  rw [fWait_t (by decide) (by decide), tI_t (by decide), tI_t (by decide)]
theorem ask_s {p : Nat} : fAsk0 τ p 4 p 0 = 1 := by
  unfold fAsk0
  exact fWait_s
theorem quit_1 {p : Nat} : give P (fQuit0 τ p) 1 = τ 1 := by
  rw [give_t (by decide) (by decide)]
  unfold fQuit0
  rw [tI_t (by decide), tI_t (by decide)]
  cases e : cCell τ (nI p) with
  | none => rfl
  | some i => exact tI_t (by decide)
theorem quit_s (h : Iv K E P τ) {p : Nat} (hp : p < P) : give P (fQuit0 τ p) 4 p 0 = 0 := by
  have s : fQuit0 τ p 4 p 0 = 0 := by
    unfold fQuit0
    rw [tI_k (by decide), tI_s]
  rw [give_idle (fQuit0_Iv h hp).dw (by rw [s]; decide), s]
theorem tell_day (o : Option Nat) : cTell o 0 = cDay o := by cases o <;> rfl
/-- a route is never the one of the latest test -/
theorem least_ne (t : Nat → Int32) (av : Int32) : ∀ k i b, ¬ nI b = av → ¬ nI (cLeast t av k i b) = av := by
  intro k
  induction k with
  | zero => intro i b hb; exact hb
  | succ k ih =>
    intro i b hb
    rw [cLeast]
    split
    · exact ih _ _ hb
    · split
      · exact ih _ _ hb
      · rename_i h1 _
        exact ih _ _ h1
theorem route_ne (t : Nat → Int32) (av : Int32) : ¬ nI (cRoute t av) = av := by
  unfold cRoute
  split
  · rename_i h
    exact least_ne t av _ _ _ (by rw [h]; decide)
  · rename_i h
    exact least_ne t av _ _ _ (fun z => h z.symm)
end GV
