/-! WHAT HAPPENS TO AN OFFICE -/
def cCell (τ : Nat → Nat → Nat → Int32) (x : Int32) : Option Nat := fnd (fun i => decide (τ 2 0 i = x)) 160 0
def cDay : Option Nat → Int32
  | none => -1
  | some i => nI (i / 16)
def fWait (τ : Nat → Nat → Nat → Int32) (p : Nat) : Nat → Nat → Nat → Int32 := tI (tI (tI τ 4 p 0 1) 4 p 6 (τ 0 0 3)) 0 0 3 (τ 0 0 3 + 1)
def fAsk0 (τ : Nat → Nat → Nat → Int32) (p : Nat) : Nat → Nat → Nat → Int32 := fWait (tI (tI τ 4 p 8 (τ 1 0 3)) 4 p 7 (τ 4 p 7 + τ 1 0 3)) p
def cBack (τ : Nat → Nat → Nat → Int32) (p : Nat) : Int32 := match cCell τ (nI p) with
  | none => τ 4 p 8
  | some i => if τ 1 0 2 ≤ nI (i / 16) then τ 4 p 8 else 0
def fQuit0 (τ : Nat → Nat → Nat → Int32) (p : Nat) : Nat → Nat → Nat → Int32 := tI (tI (match cCell τ (nI p) with | none => τ | some i => tI τ 2 0 i (-1)) 4 p 0 0) 4 p 7 (τ 4 p 7 - cBack τ p)
def fMor (P : Nat) (τ : Nat → Nat → Nat → Int32) (i : Nat) : Nat → Nat → Nat → Int32 := if isPu P (τ 2 0 i) then fWait (tI (tI τ 2 0 i (-2)) 4 (ix (τ 2 0 i)) 5 (τ 4 (ix (τ 2 0 i)) 5 + 1)) (ix (τ 2 0 i)) else tI τ 2 0 i (-2)
def fCan0 (P : Nat) (τ : Nat → Nat → Nat → Int32) (e D : Nat) : Nat → Nat → Nat → Int32 := tI (fMor P (fMor P τ (16 * D + 4 * 0 + e)) (16 * D + 4 * 1 + e)) 5 e 2 (τ 5 e 2 + 1)
def cMoved (P : Nat) (τ : Nat → Nat → Nat → Int32) (e D : Nat) : Nat := (if isPu P (τ 2 0 (16 * D + 4 * 0 + e)) then 1 else 0) + (if isPu P (τ 2 0 (16 * D + 4 * 1 + e)) then 1 else 0)
def cRt (τ : Nat → Nat → Nat → Int32) (p i : Nat) : Nat := cRoute (τ 6 (i % 4)) (τ 4 p 3)
def fTest1 (τ : Nat → Nat → Nat → Int32) (p i : Nat) : Nat → Nat → Nat → Int32 := tI (tI (tI (tI τ 2 0 i (-2)) 6 (i % 4) (cRt τ p i) (τ 6 (i % 4) (cRt τ p i) + 1)) 4 p 3 (nI (cRt τ p i))) 4 p 4 (nI (i % 4))
def fTestP (τ : Nat → Nat → Nat → Int32) (p i : Nat) : Nat → Nat → Nat → Int32 := tI (tI (fTest1 τ p i) 5 (i % 4) 1 (τ 5 (i % 4) 1 + 1)) 4 p 0 3
def fTestF (τ : Nat → Nat → Nat → Int32) (p i : Nat) : Nat → Nat → Nat → Int32 := tI (tI (tI (fTest1 τ p i) 4 p 1 (τ 4 p 1 + 1)) 4 p 0 0) 4 p 2 (τ 0 0 0 + (if 60 < τ 1 0 0 * (τ 4 p 1 + 1) then 60 else τ 1 0 0 * (τ 4 p 1 + 1)))
def cAway (P : Nat) (τ : Nat → Nat → Nat → Int32) : Nat := cN (fun i => isPu P (τ 2 0 i)) 16
/-- a pupil has one of the first n cells -/
def inC (τ : Nat → Nat → Nat → Int32) (n p : Nat) : Bool := (fnd (fun i => decide (τ 2 0 i = nI p)) n 0).isSome
def fGo0 (E P : Nat) (τ : Nat → Nat → Nat → Int32) : Nat → Nat → Nat → Int32 := fun t j k =>
  if t = 0 ∧ j = 0 ∧ k = 0 then τ 0 0 0 + 1 else
  if t = 0 ∧ j = 0 ∧ k = 4 then τ 0 0 4 + nI (cAway P τ) else
  if t = 2 ∧ j = 0 then (if k < 144 then τ 2 0 (k + 16) else if k < 160 ∧ k % 4 < E then -1 else τ 2 0 k) else
  if t = 4 ∧ k = 0 ∧ j < P ∧ inC τ 16 j = true then 0 else τ t j k
def fAddE0 (E : Nat) (τ : Nat → Nat → Nat → Int32) : Nat → Nat → Nat → Int32 := fun t j k =>
  if t = 0 ∧ j = 0 ∧ k = 1 then nI (E + 1) else
  if t = 2 ∧ j = 0 ∧ k < 160 ∧ k % 4 = E then -1 else τ t j k
def fAddP (P : Nat) (τ : Nat → Nat → Nat → Int32) : Nat → Nat → Nat → Int32 := tI (tI τ 0 0 2 (nI (P + 1))) 4 P 2 (τ 0 0 0)
theorem inC_iff {τ : Nat → Nat → Nat → Int32} {n p : Nat} : inC τ n p = true ↔ ∃ i, i < n ∧ τ 2 0 i = nI p := by
  unfold inC
  cases e : fnd (fun i => decide (τ 2 0 i = nI p)) n 0 with
  | none =>
    constructor
    · intro h; cases h
    · rintro ⟨i, hi, h⟩
      have := fnd_none.mp e i (by omega) (by omega)
      rw [h] at this
      simp at this
  | some z =>
    obtain ⟨_, h2, h3, _⟩ := fnd_some e
    exact ⟨fun _ => ⟨z, by omega, by simpa using h3⟩, fun _ => rfl⟩
theorem cCell_none {τ : Nat → Nat → Nat → Int32} {x : Int32} (h : cCell τ x = none) {i : Nat} (hi : i < 160) : ¬ τ 2 0 i = x := by
  have := fnd_none.mp h i (by omega) (by omega)
  simpa using this
theorem cCell_some {τ : Nat → Nat → Nat → Int32} {x : Int32} {i : Nat} (h : cCell τ x = some i) : i < 160 ∧ τ 2 0 i = x := by
  obtain ⟨_, h2, h3, _⟩ := fnd_some h
  exact ⟨by omega, by simpa using h3⟩
section IV2
variable {K E P : Nat} {τ σ : Nat → Nat → Nat → Int32}
theorem Iv_cong (h : Iv K E P τ) (a0 : ∀ k, k < 4 → σ 0 0 k = τ 0 0 k) (a2 : ∀ i, i < 160 → σ 2 0 i = τ 2 0 i) (a4 : ∀ p, p < P → ∀ k, k = 0 ∨ k = 5 ∨ k = 6 → σ 4 p k = τ 4 p k) (b4 : ∀ p, P ≤ p → p < 12 → ∀ k, k < 9 → σ 4 p k = τ 4 p k) (b5 : ∀ e, E ≤ e → e < 4 → σ 5 e 1 = τ 5 e 1 ∧ σ 5 e 2 = τ 5 e 2 ∧ ∀ k, k < 4 → σ 6 e k = τ 6 e k) : Iv K E P σ := by
  obtain ⟨h1, h2, ⟨D, hD, hD2⟩, ⟨B, hB, hK, hb⟩, h5, h6, h7, h8, h9, h10, h11, h12, h13⟩ := h
  refine ⟨by rw [a0 1 (by decide)]; exact h1, by rw [a0 2 (by decide)]; exact h2, ⟨D, by rw [a0 0 (by decide)]; exact hD, hD2⟩, ⟨B, by rw [a0 3 (by decide)]; exact hB, hK, fun p hp hs => ?_⟩, fun p hp => ?_, fun p hp => ?_, ?_, fun i hi hE => ?_, fun i hi hE => ?_, fun p hp i hi j hj ei ej => ?_, fun p hp hs i hi => ?_, fun p hp hp2 => ?_, fun e he he2 => ?_⟩
  · rw [a4 p hp 0 (by simp)] at hs
    rw [a4 p hp 6 (by simp)]
    exact hb p hp hs
  · rw [a4 p hp 5 (by simp)]
    exact h5 p hp
  · rw [a4 p hp 0 (by simp)]
    exact h6 p hp
  · intro p hp q hq wp wq e
    unfold wt at wp wq
    rw [a4 p hp 0 (by simp)] at wp
    rw [a4 q hq 0 (by simp)] at wq
    rw [a4 p hp 6 (by simp), a4 q hq 6 (by simp)] at e
    exact h7 p hp q hq wp wq e
  · rw [a2 i hi]; exact h8 i hi hE
  · rw [a2 i hi]; exact h9 i hi hE
  · rw [a2 i hi] at ei
    rw [a2 j hj] at ej
    exact h10 p hp i hi j hj ei ej
  · rw [a4 p hp 0 (by simp)] at hs
    rw [a2 i hi]
    exact h11 p hp hs i hi
  · rw [b4 p hp hp2 0 (by decide), b4 p hp hp2 1 (by decide), b4 p hp hp2 3 (by decide), b4 p hp hp2 4 (by decide), b4 p hp hp2 5 (by decide), b4 p hp hp2 6 (by decide), b4 p hp hp2 7 (by decide), b4 p hp hp2 8 (by decide)]
    exact h12 p hp hp2
  · obtain ⟨c1, c2, c3⟩ := b5 e he he2
    obtain ⟨d1, d2, d3⟩ := h13 e he he2
    exact ⟨c1.trans d1, c2.trans d2, fun k hk => (c3 k hk).trans (d3 k hk)⟩
/-- a field of a pupil that binds nothing -/
theorem Iv_f (h : Iv K E P τ) {p k : Nat} (hp : p < P) (h0 : k ≠ 0) (h5 : k ≠ 5) (h6 : k ≠ 6) (x : Int32) : Iv K E P (tI τ 4 p k x) := by
  refine Iv_cong h (fun _ _ => by rw [tI_t (by decide)]) (fun _ _ => by rw [tI_t (by decide)]) (fun q _ j hj => by rw [tI_g, if_neg (fun z => by omega)]) (fun q _ _ j _ => by rw [tI_g, if_neg (fun z => by omega)]) (fun e _ _ => by rw [tI_t (by decide), tI_t (by decide)]; exact ⟨rfl, rfl, fun _ _ => rfl⟩)
theorem Iv_e (h : Iv K E P τ) {e k t : Nat} (he : e < E) (ht : t = 5 ∨ t = 6) (x : Int32) : Iv K E P (tI τ t e k x) := by
  refine Iv_cong h (fun _ _ => by rw [tI_t (by omega)]) (fun _ _ => by rw [tI_t (by omega)]) (fun q _ j hj => by rw [tI_t (by omega)]) (fun q _ _ j _ => by rw [tI_t (by omega)]) (fun f hf _ => ⟨by rw [tI_g, if_neg (fun z => by omega)], by rw [tI_g, if_neg (fun z => by omega)], fun j _ => by rw [tI_g, if_neg (fun z => by omega)]⟩)
theorem Iv_h (h : Iv K E P τ) {t j k : Nat} (ht : (t = 0 ∧ k = 4) ∨ t = 1) (x : Int32) : Iv K E P (tI τ t j k x) := by
  refine Iv_cong h (fun i _ => by rw [tI_g, if_neg (fun z => by omega)]) (fun _ _ => by rw [tI_t (by omega)]) (fun q _ j hj => by rw [tI_t (by omega)]) (fun q _ _ j _ => by rw [tI_t (by omega)]) (fun f hf _ => ⟨by rw [tI_t (by omega)], by rw [tI_t (by omega)], fun j _ => by rw [tI_t (by omega)]⟩)
/-- a cell is freed or closed -/
theorem Iv_c (h : Iv K E P τ) {i : Nat} (hiE : i % 4 < E) {x : Int32} (hx : x = -1 ∨ x = -2) : Iv K E P (tI τ 2 0 i x) := by
  have hP := h.P12
  have hx' : ∀ q, q < P → ¬ x = nI q := fun q hq z => by
    rcases hx with y | y
    · rw [y] at z; exact nI_m1 (by omega) z.symm
    · rw [y] at z; exact nI_m2 (by omega) z.symm
  obtain ⟨h1, h2, h3, h4, h5, h6, h7, h8, h9, h10, h11, h12, h13⟩ := h
  have t0 : tI τ 2 0 i x 0 = τ 0 := tI_t (by decide)
  have t4 : tI τ 2 0 i x 4 = τ 4 := tI_t (by decide)
  have t5 : tI τ 2 0 i x 5 = τ 5 := tI_t (by decide)
  have t6 : tI τ 2 0 i x 6 = τ 6 := tI_t (by decide)
  have ti : tI τ 2 0 i x 2 0 i = x := tI_s
  have tj : ∀ j, j ≠ i → tI τ 2 0 i x 2 0 j = τ 2 0 j := fun j hj => tI_k hj
  generalize tI τ 2 0 i x = σ at *
  refine ⟨by rw [t0]; exact h1, by rw [t0]; exact h2, by rw [t0]; exact h3, by rw [t0, t4]; exact h4, by rw [t4]; exact h5, by rw [t4]; exact h6, by unfold Dw wt at *; rw [t4]; exact h7, fun j hj hjE => ?_, fun j hj hjE => ?_, fun q hq a ha b hb ea eb => ?_, fun q hq hs j hj => ?_, by rw [t4]; exact h12, by rw [t5, t6]; exact h13⟩
  · by_cases e : j = i
    · subst e; rw [ti]
      rcases hx with y | y
      · exact Or.inl y
      · exact Or.inr (Or.inl y)
    · rw [tj j e]; exact h8 j hj hjE
  · rw [tj j (fun z => by subst z; omega)]
    exact h9 j hj hjE
  · have z : ∀ j, σ 2 0 j = nI q → j ≠ i := fun j hz y => by
      subst y
      rw [ti] at hz
      exact hx' q hq hz
    rw [tj a (z a ea)] at ea
    rw [tj b (z b eb)] at eb
    exact h10 q hq a ha b hb ea eb
  · rw [t4] at hs
    by_cases y : j = i
    · subst y; rw [ti]; exact hx' q hq
    · rw [tj j y]; exact h11 q hq hs j hj
/-- a pupil without a cell becomes idle, or has passed -/
theorem Iv_s (h : Iv K E P τ) {p v : Nat} (hp : p < P) (hv : v < 4) (hv1 : v ≠ 1) (hn : ∀ i, i < 160 → ¬ τ 2 0 i = nI p) : Iv K E P (tI τ 4 p 0 (nI v)) := by
  have hP := h.P12
  obtain ⟨h1, h2, h3, h4, h5, h6, h7, h8, h9, h10, h11, h12, h13⟩ := h
  have t0 : tI τ 4 p 0 (nI v) 0 = τ 0 := tI_t (by decide)
  have t2 : tI τ 4 p 0 (nI v) 2 = τ 2 := tI_t (by decide)
  have t5 : tI τ 4 p 0 (nI v) 5 = τ 5 := tI_t (by decide)
  have t6 : tI τ 4 p 0 (nI v) 6 = τ 6 := tI_t (by decide)
  have t4p : tI τ 4 p 0 (nI v) 4 p 0 = nI v := tI_s
  have t4q : ∀ q, q ≠ p → tI τ 4 p 0 (nI v) 4 q = τ 4 q := fun q hq => tI_j hq
  have t4k : ∀ q k, k ≠ 0 → tI τ 4 p 0 (nI v) 4 q k = τ 4 q k := fun q k hk => by rw [tI_g, if_neg (fun z => hk z.2.2)]
  generalize tI τ 4 p 0 (nI v) = σ at *
  have w1 : ∀ q, σ 4 q 0 = 1 → q ≠ p ∧ τ 4 q 0 = 1 := fun q z => by
    by_cases e : q = p
    · subst e; rw [t4p] at z; exact absurd (nI_i (b := 1) (by omega) (by decide) z) hv1
    · rw [t4q q e] at z; exact ⟨e, z⟩
  refine ⟨by rw [t0]; exact h1, by rw [t0]; exact h2, by rw [t0]; exact h3, ?_, fun q hq => by rw [t4k q 5 (by decide)]; exact h5 q hq, ?_, ?_, by rw [t2]; exact h8, by rw [t2]; exact h9, by rw [t2]; exact h10, ?_, ?_, by rw [t5, t6]; exact h13⟩
  · obtain ⟨B, hB, hK, hb⟩ := h4
    refine ⟨B, by rw [t0]; exact hB, hK, fun q hq z => ?_⟩
    rw [t4k q 6 (by decide)]
    exact hb q hq (w1 q z).2
  · intro q hq
    by_cases e : q = p
    · subst e; exact ⟨v, t4p, hv⟩
    · rw [t4q q e]; exact h6 q hq
  · intro a ha b hb wa wb e
    unfold wt at wa wb
    rw [decide_eq_true_eq] at wa wb
    rw [t4k a 6 (by decide), t4k b 6 (by decide)] at e
    exact h7 a ha b hb (by unfold wt; rw [decide_eq_true_eq]; exact (w1 a wa).2) (by unfold wt; rw [decide_eq_true_eq]; exact (w1 b wb).2) e
  · intro q hq hs j hj
    rw [t2]
    by_cases e : q = p
    · subst e; exact hn j hj
    · rw [t4q q e] at hs; exact h11 q hq hs j hj
  · intro q hq hq2
    rw [t4q q (by omega)]
    exact h12 q hq hq2
/-- moved once more -/
theorem Iv_m (h : Iv K E P τ) {p : Nat} (hp : p < P) : Iv (K + 1) E P (tI τ 4 p 5 (τ 4 p 5 + 1)) := by
  obtain ⟨h1, h2, h3, h4, h5, h6, h7, h8, h9, h10, h11, h12, h13⟩ := h
  have t0 : tI τ 4 p 5 (τ 4 p 5 + 1) 0 = τ 0 := tI_t (by decide)
  have t2 : tI τ 4 p 5 (τ 4 p 5 + 1) 2 = τ 2 := tI_t (by decide)
  have t5 : tI τ 4 p 5 (τ 4 p 5 + 1) 5 = τ 5 := tI_t (by decide)
  have t6 : tI τ 4 p 5 (τ 4 p 5 + 1) 6 = τ 6 := tI_t (by decide)
  have t4p : tI τ 4 p 5 (τ 4 p 5 + 1) 4 p 5 = τ 4 p 5 + 1 := tI_s
  have t4q : ∀ q, q ≠ p → tI τ 4 p 5 (τ 4 p 5 + 1) 4 q = τ 4 q := fun q hq => tI_j hq
  have t4k : ∀ q k, k ≠ 5 → tI τ 4 p 5 (τ 4 p 5 + 1) 4 q k = τ 4 q k := fun q k hk => by rw [tI_g, if_neg (fun z => hk z.2.2)]
  generalize tI τ 4 p 5 (τ 4 p 5 + 1) = σ at *
  refine ⟨by rw [t0]; exact h1, by rw [t0]; exact h2, by rw [t0]; exact h3, ?_, ?_, fun q hq => by rw [t4k q 0 (by decide)]; exact h6 q hq, ?_, by rw [t2]; exact h8, by rw [t2]; exact h9, by rw [t2]; exact h10, ?_, ?_, by rw [t5, t6]; exact h13⟩
  · obtain ⟨B, hB, hK, hb⟩ := h4
    refine ⟨B, by rw [t0]; exact hB, by omega, fun q hq z => ?_⟩
    rw [t4k q 6 (by decide)]
    rw [t4k q 0 (by decide)] at z
    exact hb q hq z
  · intro q hq
    obtain ⟨v, hv, hk⟩ := h5 q hq
    by_cases e : q = p
    · subst e
      exact ⟨v + 1, by rw [t4p, hv, nI_1], by omega⟩
    · rw [t4q q e]
      exact ⟨v, hv, by omega⟩
  · intro a ha b hb wa wb e
    unfold wt at wa wb
    rw [t4k a 0 (by decide)] at wa
    rw [t4k b 0 (by decide)] at wb
    rw [t4k a 6 (by decide), t4k b 6 (by decide)] at e
    exact h7 a ha b hb wa wb e
  · intro q hq hs j hj
    rw [t2]
    rw [t4k q 0 (by decide)] at hs
    exact h11 q hq hs j hj
  · intro q hq hq2
    rw [t4q q (by omega)]
    exact h12 q hq hq2
/-- a pupil without a cell begins to wait -/
theorem Iv_w (h : Iv K E P τ) {p : Nat} (hp : p < P) (hK : K < 2 ^ 31) (hn : ∀ i, i < 160 → ¬ τ 2 0 i = nI p) : Iv (K + 1) E P (fWait τ p) := by
  have hP := h.P12
  obtain ⟨h1, h2, h3, ⟨B, hB, hBK, hb⟩, h5, h6, h7, h8, h9, h10, h11, h12, h13⟩ := h
  have t0k : ∀ k, k ≠ 3 → fWait τ p 0 0 k = τ 0 0 k := fun k hk => by unfold fWait; rw [tI_k hk, tI_t (by decide), tI_t (by decide)]
  have t03 : fWait τ p 0 0 3 = nI (B + 1) := by unfold fWait; rw [tI_s, hB, nI_1]
  have t2 : fWait τ p 2 = τ 2 := by unfold fWait; rw [tI_t (by decide), tI_t (by decide), tI_t (by decide)]
  have t5 : fWait τ p 5 = τ 5 := by unfold fWait; rw [tI_t (by decide), tI_t (by decide), tI_t (by decide)]
  have t6 : fWait τ p 6 = τ 6 := by unfold fWait; rw [tI_t (by decide), tI_t (by decide), tI_t (by decide)]
  have t4p : fWait τ p 4 p 0 = 1 := by unfold fWait; rw [tI_t (by decide), tI_k (by decide), tI_s]
  have t4b : fWait τ p 4 p 6 = nI B := by unfold fWait; rw [tI_t (by decide), tI_s, hB]
  have t4q : ∀ q, q ≠ p → fWait τ p 4 q = τ 4 q := fun q hq => by unfold fWait; rw [tI_t (by decide), tI_j hq, tI_j hq]
  have t4k : ∀ k, k ≠ 0 → k ≠ 6 → fWait τ p 4 p k = τ 4 p k := fun k h0 h6 => by unfold fWait; rw [tI_t (by decide), tI_k h6, tI_k h0]
  generalize fWait τ p = σ at *
  have low : ∀ q, q < P → q ≠ p → σ 4 q 0 = 1 → ∃ b, σ 4 q 6 = nI b ∧ b < B := fun q hq e z => by
    rw [t4q q e] at z ⊢
    exact hb q hq z
  refine ⟨by rw [t0k 1 (by decide)]; exact h1, by rw [t0k 2 (by decide)]; exact h2, by rw [t0k 0 (by decide)]; exact h3, ⟨B + 1, t03, by omega, fun q hq z => ?_⟩, fun q hq => ?_, fun q hq => ?_, ?_, by rw [t2]; exact h8, by rw [t2]; exact h9, by rw [t2]; exact h10, ?_, ?_, by rw [t5, t6]; exact h13⟩
  · by_cases e : q = p
    · subst e; exact ⟨B, t4b, by omega⟩
    · obtain ⟨b, h1, h2⟩ := low q hq e z
      exact ⟨b, h1, by omega⟩
  · obtain ⟨v, hv, hk⟩ := h5 q hq
    by_cases e : q = p
    · subst e; exact ⟨v, by rw [t4k 5 (by decide) (by decide)]; exact hv, by omega⟩
    · exact ⟨v, by rw [t4q q e]; exact hv, by omega⟩
  · by_cases e : q = p
    · subst e; exact ⟨1, by rw [t4p]; rfl, by decide⟩
    · rw [t4q q e]; exact h6 q hq
  · intro a ha b hb' wa wb e
    unfold wt at wa wb
    rw [decide_eq_true_eq] at wa wb
    by_cases ea : a = p
    · by_cases eb : b = p
      · rw [ea, eb]
      · obtain ⟨z, hz, hzB⟩ := low b hb' eb wb
        subst ea
        rw [t4b, hz] at e
        exact absurd (nI_i (by omega) (by omega) e) (by omega)
    · by_cases eb : b = p
      · obtain ⟨z, hz, hzB⟩ := low a ha ea wa
        subst eb
        rw [t4b, hz] at e
        exact absurd (nI_i (by omega) (by omega) e) (by omega)
      · rw [t4q a ea] at wa e
        rw [t4q b eb] at wb e
        exact h7 a ha b hb' (by unfold wt; rw [decide_eq_true_eq]; exact wa) (by unfold wt; rw [decide_eq_true_eq]; exact wb) e
  · intro q hq hs j hj
    rw [t2]
    by_cases e : q = p
    · subst e; exact hn j hj
    · rw [t4q q e] at hs; exact h11 q hq hs j hj
  · intro q hq hq2
    rw [t4q q (by omega)]
    exact h12 q hq hq2
theorem Iv.no2 (h : Iv K E P τ) {p : Nat} (hp : p < P) (hs : ¬ τ 4 p 0 = 2) : ∀ i, i < 160 → ¬ τ 2 0 i = nI p := h.2.2.2.2.2.2.2.2.2.2.1 p hp hs
theorem Iv.un (h : Iv K E P τ) {p : Nat} (hp : p < P) {i j : Nat} (hi : i < 160) (hj : j < 160) (ei : τ 2 0 i = nI p) (ej : τ 2 0 j = nI p) : i = j := h.2.2.2.2.2.2.2.2.2.1 p hp i hi j hj ei ej
theorem Iv.ceE' (h : Iv K E P τ) {p : Nat} (hp : p < P) {i : Nat} (hi : i < 160) (ei : τ 2 0 i = nI p) : i % 4 < E := h.ceE hi (by have := h.P12; rw [ei]; exact nI_m2 (by omega))
/-- without its cell a pupil has none -/
theorem Iv.gone (h : Iv K E P τ) {p : Nat} (hp : p < P) {i : Nat} (hi : i < 160) (ei : τ 2 0 i = nI p) {x : Int32} (hx : x = -1 ∨ x = -2) : ∀ j, j < 160 → ¬ tI τ 2 0 i x 2 0 j = nI p := fun j hj z => by
  have hP := h.P12
  by_cases e : j = i
  · subst e
    rw [tI_s] at z
    rcases hx with y | y
    · rw [y] at z; exact nI_m1 (by omega) z.symm
    · rw [y] at z; exact nI_m2 (by omega) z.symm
  · rw [tI_k e] at z
    exact e (h.un hp hj hi z ei)
theorem fAsk0_Iv (h : Iv K E P τ) {p : Nat} (hp : p < P) (hK : K < 2 ^ 31) (hs : τ 4 p 0 = 0) : Iv (K + 1) E P (fAsk0 τ p) := by
  refine Iv_w (Iv_f (Iv_f h hp (by decide) (by decide) (by decide) _) hp (by decide) (by decide) (by decide) _) hp hK ?_
  rw [tI_t (by decide), tI_t (by decide)]
  exact h.no2 hp (by rw [hs]; decide)
theorem fQuit0_Iv (h : Iv K E P τ) {p : Nat} (hp : p < P) : Iv K E P (fQuit0 τ p) := by
  unfold fQuit0
  refine Iv_f ?_ hp (by decide) (by decide) (by decide) _
  cases e : cCell τ (nI p) with
  | none => exact Iv_s (v := 0) h hp (by decide) (by decide) (fun i hi => cCell_none e hi)
  | some i =>
    obtain ⟨hi, ei⟩ := cCell_some e
    exact Iv_s (v := 0) (Iv_c h (h.ceE' hp hi ei) (Or.inl rfl)) hp (by decide) (by decide) (h.gone hp hi ei (Or.inl rfl))
theorem isPu_iff (h : Iv K E P τ) {i : Nat} (hi : i < 160) : isPu P (τ 2 0 i) = true ↔ ∃ p, p < P ∧ τ 2 0 i = nI p := by
  unfold isPu
  rw [decide_eq_true_eq]
  exact Ce_pu h.P12 (h.ce hi)
theorem fMor_Iv (h : Iv K E P τ) {i : Nat} (hi : i < 160) (hE : i % 4 < E) (hK : K + 1 < 2 ^ 31) : Iv (K + 2) E P (fMor P τ i) := by
  unfold fMor
  by_cases e : isPu P (τ 2 0 i) = true
  · obtain ⟨p, hp, ep⟩ := (isPu_iff h hi).mp e
    have hP := h.P12
    rw [if_pos e, ep, ixn (by omega)]
    have hc := Iv_c (x := -2) h hE (Or.inr rfl)
    have hm := Iv_m hc hp
    rw [tI_t (show 4 ≠ 2 by decide)] at hm
    refine Iv_w hm hp hK ?_
    rw [tI_t (by decide)]
    exact h.gone hp hi ep (Or.inr rfl)
  · rw [if_neg e]
    exact Iv_up (by omega) (Iv_c h hE (Or.inr rfl))
theorem fCan0_Iv (h : Iv K E P τ) {e D : Nat} (he : e < E) (hD : D < 10) (hK : K + 3 < 2 ^ 31) : Iv (K + 4) E P (fCan0 P τ e D) := by
  have hE := h.E4
  exact Iv_e (fMor_Iv (fMor_Iv h (by omega) (by omega) (by omega)) (by omega) (by omega) (by omega)) he (Or.inl rfl) _
theorem fTest1_Iv (h : Iv K E P τ) {p i : Nat} (hp : p < P) (hi : i < 160) (ei : τ 2 0 i = nI p) : Iv K E P (fTest1 τ p i) ∧ ∀ j, j < 160 → ¬ fTest1 τ p i 2 0 j = nI p := by
  have hE := h.ceE' hp hi ei
  refine ⟨Iv_f (Iv_f (Iv_e (Iv_c h hE (Or.inr rfl)) hE (Or.inr rfl) _) hp (by decide) (by decide) (by decide) _) hp (by decide) (by decide) (by decide) _, ?_⟩
  have := h.gone hp hi ei (x := -2) (Or.inr rfl)
  unfold fTest1
  rw [tI_t (by decide), tI_t (by decide), tI_t (by decide)]
  exact this
theorem fTestP_Iv (h : Iv K E P τ) {p i : Nat} (hp : p < P) (hi : i < 160) (ei : τ 2 0 i = nI p) : Iv K E P (fTestP τ p i) := by
  obtain ⟨h1, h2⟩ := fTest1_Iv h hp hi ei
  refine Iv_s (v := 3) (Iv_e h1 (h.ceE' hp hi ei) (Or.inl rfl) _) hp (by decide) (by decide) ?_
  rw [tI_t (by decide)]
  exact h2
theorem fTestF_Iv (h : Iv K E P τ) {p i : Nat} (hp : p < P) (hi : i < 160) (ei : τ 2 0 i = nI p) : Iv K E P (fTestF τ p i) := by
  obtain ⟨h1, h2⟩ := fTest1_Iv h hp hi ei
  refine Iv_f (Iv_s (v := 0) (Iv_f h1 hp (by decide) (by decide) (by decide) _) hp (by decide) (by decide) ?_) hp (by decide) (by decide) (by decide) _
  rw [tI_t (by decide)]
  exact h2
theorem fGo0_Iv (h : Iv K E P τ) (hd : ∃ D, τ 0 0 0 = nI D ∧ D < 9999) : Iv K E P (fGo0 E P τ) := by
  have hP := h.P12
  have hE := h.E4
  have un := fun {p : Nat} (hp : p < P) {i j : Nat} => h.un hp (i := i) (j := j)
  obtain ⟨h1, h2, h3, ⟨B, hB, hBK, hb⟩, h5, h6, h7, h8, h9, h10, h11, h12, h13⟩ := h
  have t00 : fGo0 E P τ 0 0 0 = τ 0 0 0 + 1 := by simp [fGo0]
  have t0k : ∀ k, k ≠ 0 → k ≠ 4 → fGo0 E P τ 0 0 k = τ 0 0 k := fun k a b => by simp [fGo0, a, b]
  have t2a : ∀ k, k < 144 → fGo0 E P τ 2 0 k = τ 2 0 (k + 16) := fun k a => by simp [fGo0, a]
  have t2b : ∀ k, 144 ≤ k → k < 160 → k % 4 < E → fGo0 E P τ 2 0 k = -1 := fun k a b c => by simp [fGo0, b, c, show ¬ k < 144 by omega]
  have t2c : ∀ k, 144 ≤ k → E ≤ k % 4 → fGo0 E P τ 2 0 k = τ 2 0 k := fun k a b => by simp [fGo0, show ¬ k < 144 by omega, show ¬ k % 4 < E by omega]
  have t4k : ∀ p k, k ≠ 0 → fGo0 E P τ 4 p k = τ 4 p k := fun p k a => by simp [fGo0, a]
  have t4y : ∀ p, p < P → inC τ 16 p = true → fGo0 E P τ 4 p 0 = 0 := fun p a b => by simp [fGo0, a, b]
  have t4n : ∀ p, ¬ (p < P ∧ inC τ 16 p = true) → fGo0 E P τ 4 p 0 = τ 4 p 0 := fun p a => by simp [fGo0, a]
  have t5 : fGo0 E P τ 5 = τ 5 := by funext j k; simp [fGo0]
  have t6 : fGo0 E P τ 6 = τ 6 := by funext j k; simp [fGo0]
  generalize fGo0 E P τ = σ at *
  have w1 : ∀ q, σ 4 q 0 = 1 → τ 4 q 0 = 1 := fun q z => by
    by_cases e : q < P ∧ inC τ 16 q = true
    · rw [t4y q e.1 e.2] at z; exact absurd z (by decide)
    · rw [t4n q e] at z; exact z
  have back : ∀ q, q < P → ∀ j, j < 160 → σ 2 0 j = nI q → j < 144 ∧ τ 2 0 (j + 16) = nI q := fun q hq j hj z => by
    by_cases a : j < 144
    · rw [t2a j a] at z; exact ⟨a, z⟩
    · by_cases b : j % 4 < E
      · rw [t2b j (by omega) hj b] at z; exact absurd z.symm (nI_m1 (by omega))
      · rw [t2c j (by omega) (by omega), h9 j hj (by omega)] at z; exact absurd z.symm (nI_m2 (by omega))
  refine ⟨by rw [t0k 1 (by decide) (by decide)]; exact h1, by rw [t0k 2 (by decide) (by decide)]; exact h2, ?_, ⟨B, by rw [t0k 3 (by decide) (by decide)]; exact hB, hBK, fun q hq z => by rw [t4k q 6 (by decide)]; exact hb q hq (w1 q z)⟩, fun q hq => by rw [t4k q 5 (by decide)]; exact h5 q hq, fun q hq => ?_, ?_, fun i hi hiE => ?_, fun i hi hiE => ?_, fun q hq a ha b hb ea eb => ?_, fun q hq hs j hj z => ?_, fun q hq hq2 => ?_, by rw [t5, t6]; exact h13⟩
  · obtain ⟨D, hD, hD2⟩ := hd
    exact ⟨D + 1, by rw [t00, hD, nI_1], by omega⟩
  · by_cases e : q < P ∧ inC τ 16 q = true
    · exact ⟨0, t4y q e.1 e.2, by decide⟩
    · rw [t4n q e]; exact h6 q hq
  · intro a ha b hb wa wb e
    unfold wt at wa wb
    rw [decide_eq_true_eq] at wa wb
    rw [t4k a 6 (by decide), t4k b 6 (by decide)] at e
    exact h7 a ha b hb (by unfold wt; rw [decide_eq_true_eq]; exact w1 a wa) (by unfold wt; rw [decide_eq_true_eq]; exact w1 b wb) e
  · by_cases a : i < 144
    · rw [t2a i a]; exact h8 (i + 16) (by omega) (by omega)
    · rw [t2b i (by omega) hi hiE]; exact Or.inl rfl
  · by_cases a : i < 144
    · rw [t2a i a]; exact h9 (i + 16) (by omega) (by omega)
    · rw [t2c i (by omega) hiE]; exact h9 i hi hiE
  · obtain ⟨a1, a2⟩ := back q hq a ha ea
    obtain ⟨b1, b2⟩ := back q hq b hb eb
    have := h10 q hq (a + 16) (by omega) (b + 16) (by omega) a2 b2
    omega
  · obtain ⟨z1, z2⟩ := back q hq j hj z
    by_cases e : q < P ∧ inC τ 16 q = true
    · obtain ⟨i, hi, hz⟩ := inC_iff.mp e.2
      have := h10 q hq i (by omega) (j + 16) (by omega) hz z2
      omega
    · rw [t4n q e] at hs
      exact h11 q hq hs (j + 16) (by omega) z2
  · rw [t4n q (by omega), t4k q 1 (by decide), t4k q 3 (by decide), t4k q 4 (by decide), t4k q 5 (by decide), t4k q 6 (by decide), t4k q 7 (by decide), t4k q 8 (by decide)]
    exact h12 q hq hq2
theorem fAddE0_Iv (h : Iv K E P τ) (hE : E < 4) : Iv K (E + 1) P (fAddE0 E τ) := by
  have hP := h.P12
  obtain ⟨h1, h2, h3, h4, h5, h6, h7, h8, h9, h10, h11, h12, h13⟩ := h
  have t01 : fAddE0 E τ 0 0 1 = nI (E + 1) := by simp [fAddE0]
  have t0k : ∀ k, k ≠ 1 → fAddE0 E τ 0 0 k = τ 0 0 k := fun k a => by simp [fAddE0, a]
  have t2a : ∀ k, k < 160 → k % 4 = E → fAddE0 E τ 2 0 k = -1 := fun k a b => by simp [fAddE0, a, b]
  have t2b : ∀ k, k % 4 ≠ E → fAddE0 E τ 2 0 k = τ 2 0 k := fun k b => by simp [fAddE0, b]
  have t4 : fAddE0 E τ 4 = τ 4 := by funext j k; simp [fAddE0]
  have t5 : fAddE0 E τ 5 = τ 5 := by funext j k; simp [fAddE0]
  have t6 : fAddE0 E τ 6 = τ 6 := by funext j k; simp [fAddE0]
  generalize fAddE0 E τ = σ at *
  have back : ∀ q, q < P → ∀ j, j < 160 → σ 2 0 j = nI q → τ 2 0 j = nI q := fun q hq j hj z => by
    by_cases a : j % 4 = E
    · rw [t2a j hj a] at z; exact absurd z.symm (nI_m1 (by omega))
    · rw [t2b j a] at z; exact z
  refine ⟨⟨t01, by omega⟩, by rw [t0k 2 (by decide)]; exact h2, by rw [t0k 0 (by decide)]; exact h3, by rw [t0k 3 (by decide), t4]; exact h4, by rw [t4]; exact h5, by rw [t4]; exact h6, by unfold Dw wt at *; rw [t4]; exact h7, fun i hi hiE => ?_, fun i hi hiE => ?_, fun q hq a ha b hb ea eb => h10 q hq a ha b hb (back q hq a ha ea) (back q hq b hb eb), fun q hq hs j hj z => h11 q hq (by rw [t4] at hs; exact hs) j hj (back q hq j hj z), by rw [t4]; exact h12, fun e he he2 => by rw [t5, t6]; exact h13 e (by omega) he2⟩
  · by_cases a : i % 4 = E
    · rw [t2a i hi a]; exact Or.inl rfl
    · rw [t2b i a]; exact h8 i hi (by omega)
  · rw [t2b i (by omega)]; exact h9 i hi (by omega)
theorem fAddP_Iv (h : Iv K E P τ) (hP1 : P < 12) : Iv K E (P + 1) (fAddP P τ) := by
  have hn : ∀ i, i < 160 → ¬ τ 2 0 i = nI P := fun i hi z => by
    rcases h.ce hi with y | y | ⟨p, hp, y⟩
    · rw [y] at z; exact nI_m1 (by omega) z.symm
    · rw [y] at z; exact nI_m2 (by omega) z.symm
    · rw [y] at z; exact absurd (nI_i (by omega) (by omega) z) (by omega)
  obtain ⟨h1, h2, h3, ⟨B, hB, hK, hb⟩, h5, h6, h7, h8, h9, h10, h11, h12, h13⟩ := h
  obtain ⟨f0, f1, f3, f4, f5, f6, f7, f8⟩ := h12 P (by omega) hP1
  have t02 : fAddP P τ 0 0 2 = nI (P + 1) := by unfold fAddP; rw [tI_t (by decide), tI_s]
  have t0k : ∀ k, k ≠ 2 → fAddP P τ 0 0 k = τ 0 0 k := fun k a => by unfold fAddP; rw [tI_t (by decide), tI_k a]
  have t2 : fAddP P τ 2 = τ 2 := by unfold fAddP; rw [tI_t (by decide), tI_t (by decide)]
  have t4k : ∀ q k, k ≠ 2 → fAddP P τ 4 q k = τ 4 q k := fun q k hk => by unfold fAddP; rw [tI_g, if_neg (fun z => hk z.2.2), tI_t (by decide)]
  have t5 : fAddP P τ 5 = τ 5 := by unfold fAddP; rw [tI_t (by decide), tI_t (by decide)]
  have t6 : fAddP P τ 6 = τ 6 := by unfold fAddP; rw [tI_t (by decide), tI_t (by decide)]
  generalize fAddP P τ = σ at *
  have new : ∀ q, q < P + 1 → q < P ∨ q = P := fun q hq => by omega
  have w1 : ∀ q, q < P + 1 → σ 4 q 0 = 1 → q < P := fun q hq z => by
    rcases new q hq with y | y
    · exact y
    · subst y; rw [t4k q 0 (by decide), f0] at z; exact absurd z (by decide)
  refine ⟨by rw [t0k 1 (by decide)]; exact h1, ⟨t02, by omega⟩, by rw [t0k 0 (by decide)]; exact h3, ⟨B, by rw [t0k 3 (by decide)]; exact hB, hK, fun q hq z => ?_⟩, fun q hq => ?_, fun q hq => ?_, ?_, fun i hi hiE => ?_, by rw [t2]; exact h9, fun q hq a ha b hb ea eb => ?_, fun q hq hs j hj => ?_, fun q hq hq2 => ?_, by rw [t5, t6]; exact h13⟩
  · have := w1 q hq z
    rw [t4k q 0 (by decide)] at z
    rw [t4k q 6 (by decide)]
    exact hb q this z
  · rw [t4k q 5 (by decide)]
    rcases new q hq with y | y
    · exact h5 q y
    · subst y; exact ⟨0, f5, by omega⟩
  · rw [t4k q 0 (by decide)]
    rcases new q hq with y | y
    · exact h6 q y
    · subst y; exact ⟨0, f0, by decide⟩
  · intro a ha b hb wa wb e
    unfold wt at wa wb
    rw [decide_eq_true_eq] at wa wb
    have ha' := w1 a ha wa
    have hb' := w1 b hb wb
    rw [t4k a 0 (by decide)] at wa
    rw [t4k b 0 (by decide)] at wb
    rw [t4k a 6 (by decide), t4k b 6 (by decide)] at e
    exact h7 a ha' b hb' (by unfold wt; rw [decide_eq_true_eq]; exact wa) (by unfold wt; rw [decide_eq_true_eq]; exact wb) e
  · rw [t2]
    rcases h8 i hi hiE with y | y | ⟨p, hp, y⟩
    · exact Or.inl y
    · exact Or.inr (Or.inl y)
    · exact Or.inr (Or.inr ⟨p, by omega, y⟩)
  · rw [t2] at ea eb
    rcases new q hq with y | y
    · exact h10 q y a ha b hb ea eb
    · subst y; exact absurd ea (hn a ha)
  · rw [t2]
    rcases new q hq with y | y
    · rw [t4k q 0 (by decide)] at hs
      exact h11 q y hs j hj
    · subst y; exact hn j hj
  · rw [t4k q 0 (by decide), t4k q 1 (by decide), t4k q 3 (by decide), t4k q 4 (by decide), t4k q 5 (by decide), t4k q 6 (by decide), t4k q 7 (by decide), t4k q 8 (by decide)]
    exact h12 q (by omega) hq2
/-- a copy of an office -/
def Cp (σ τ : Nat → Nat → Nat → Int32) : Prop := (∀ k, k < 5 → σ 0 0 k = τ 0 0 k) ∧ (∀ k, k < 4 → σ 1 0 k = τ 1 0 k) ∧ (∀ i, i < 160 → σ 2 0 i = τ 2 0 i) ∧ (∀ p, p < 12 → ∀ k, k < 9 → σ 4 p k = τ 4 p k) ∧ (∀ e, e < 4 → σ 5 e 1 = τ 5 e 1 ∧ σ 5 e 2 = τ 5 e 2 ∧ ∀ k, k < 4 → σ 6 e k = τ 6 e k)
theorem Cp_Iv (c : Cp σ τ) (h : Iv K E P τ) : Iv K E P σ := by
  have hP := h.P12
  obtain ⟨c0, c1, c2, c4, c5⟩ := c
  exact Iv_cong h (fun k hk => c0 k (by omega)) c2 (fun p hp k hk => c4 p (by omega) k (by omega)) (fun p _ hp k hk => c4 p hp k hk) (fun e _ he => c5 e he)
theorem Cp_Rel {s : Nat → Int32} (c : Cp σ τ) (hE : E ≤ 4) (hP : P ≤ 12) (h : Rel E P τ s) : Rel E P σ s := by
  obtain ⟨c0, c1, c2, c4, c5⟩ := c
  obtain ⟨h1, h2, h3, h4, h5⟩ := h
  refine ⟨fun k hk => (h1 k hk).trans (c0 k hk).symm, fun k hk => (h2 k hk).trans (c1 k hk).symm, fun i hi hE => (h3 i hi hE).trans (c2 i hi).symm, fun p hp k hk => (h4 p hp k hk).trans (c4 p (by omega) k hk).symm, fun e he => ?_⟩
  obtain ⟨a, b, c, d⟩ := h5 e he
  obtain ⟨x, y, z⟩ := c5 e (by omega)
  exact ⟨a.trans (sI_congr z).symm, b.trans x.symm, c.trans y.symm, fun k hk => (d k hk).trans (z k hk).symm⟩
end IV2
