/-! NUMBERS; the relation between an office and the model's row; what stays true -/
theorem nI_p0 {a : Nat} : nI a + 0 = nI a := by rw [show (0 : Int32) = nI 0 from rfl, nI_add]; rfl
theorem of0 {p : Nat} : (197 + (12 * nI p)) + (0 : Int32) = nI (197 + 12 * p + 0) := by
  rw [show (197 : Int32) = nI 197 from rfl, show (12 : Int32) = nI 12 from rfl, show (0 : Int32) = nI 0 from rfl, pk_mul, nI_add, nI_add]
theorem of1 {p : Nat} : (197 + (12 * nI p)) + (1 : Int32) = nI (197 + 12 * p + 1) := by
  rw [show (197 : Int32) = nI 197 from rfl, show (12 : Int32) = nI 12 from rfl, show (1 : Int32) = nI 1 from rfl, pk_mul, nI_add, nI_add]
theorem of2 {p : Nat} : (197 + (12 * nI p)) + (2 : Int32) = nI (197 + 12 * p + 2) := by
  rw [show (197 : Int32) = nI 197 from rfl, show (12 : Int32) = nI 12 from rfl, show (2 : Int32) = nI 2 from rfl, pk_mul, nI_add, nI_add]
theorem of3 {p : Nat} : (197 + (12 * nI p)) + (3 : Int32) = nI (197 + 12 * p + 3) := by
  rw [show (197 : Int32) = nI 197 from rfl, show (12 : Int32) = nI 12 from rfl, show (3 : Int32) = nI 3 from rfl, pk_mul, nI_add, nI_add]
theorem of4 {p : Nat} : (197 + (12 * nI p)) + (4 : Int32) = nI (197 + 12 * p + 4) := by
  rw [show (197 : Int32) = nI 197 from rfl, show (12 : Int32) = nI 12 from rfl, show (4 : Int32) = nI 4 from rfl, pk_mul, nI_add, nI_add]
theorem of5 {p : Nat} : (197 + (12 * nI p)) + (5 : Int32) = nI (197 + 12 * p + 5) := by
  rw [show (197 : Int32) = nI 197 from rfl, show (12 : Int32) = nI 12 from rfl, show (5 : Int32) = nI 5 from rfl, pk_mul, nI_add, nI_add]
theorem of6 {p : Nat} : (197 + (12 * nI p)) + (6 : Int32) = nI (197 + 12 * p + 6) := by
  rw [show (197 : Int32) = nI 197 from rfl, show (12 : Int32) = nI 12 from rfl, show (6 : Int32) = nI 6 from rfl, pk_mul, nI_add, nI_add]
theorem of7 {p : Nat} : (197 + (12 * nI p)) + (7 : Int32) = nI (197 + 12 * p + 7) := by
  rw [show (197 : Int32) = nI 197 from rfl, show (12 : Int32) = nI 12 from rfl, show (7 : Int32) = nI 7 from rfl, pk_mul, nI_add, nI_add]
theorem of8 {p : Nat} : (197 + (12 * nI p)) + (8 : Int32) = nI (197 + 12 * p + 8) := by
  rw [show (197 : Int32) = nI 197 from rfl, show (12 : Int32) = nI 12 from rfl, show (8 : Int32) = nI 8 from rfl, pk_mul, nI_add, nI_add]
theorem of_n {p k : Nat} : (197 + (12 * nI p)) + nI k = nI (197 + 12 * p + k) := by
  rw [show (197 : Int32) = nI 197 from rfl, show (12 : Int32) = nI 12 from rfl, pk_mul, nI_add, nI_add]
theorem oe0 {e : Nat} : (169 + (7 * nI e)) + (0 : Int32) = nI (169 + 7 * e + 0) := by
  rw [show (169 : Int32) = nI 169 from rfl, show (7 : Int32) = nI 7 from rfl, show (0 : Int32) = nI 0 from rfl, pk_mul, nI_add, nI_add]
theorem oe1 {e : Nat} : (169 + (7 * nI e)) + (1 : Int32) = nI (169 + 7 * e + 1) := by
  rw [show (169 : Int32) = nI 169 from rfl, show (7 : Int32) = nI 7 from rfl, show (1 : Int32) = nI 1 from rfl, pk_mul, nI_add, nI_add]
theorem oe2 {e : Nat} : (169 + (7 * nI e)) + (2 : Int32) = nI (169 + 7 * e + 2) := by
  rw [show (169 : Int32) = nI 169 from rfl, show (7 : Int32) = nI 7 from rfl, show (2 : Int32) = nI 2 from rfl, pk_mul, nI_add, nI_add]
theorem oe_n {e k : Nat} : (169 + (7 * nI e)) + (3 + nI k) = nI (169 + 7 * e + (3 + k)) := by
  rw [show (169 : Int32) = nI 169 from rfl, show (7 : Int32) = nI 7 from rfl, show (3 : Int32) = nI 3 from rfl, pk_mul, nI_add, nI_add, nI_add]
theorem at_n {e D k : Nat} : ((9 + (40 * nI e)) + (4 * nI D)) + nI k = nI (9 + 40 * e + 4 * D + k) := by
  rw [show (9 : Int32) = nI 9 from rfl, show (40 : Int32) = nI 40 from rfl, show (4 : Int32) = nI 4 from rfl, pk_mul, pk_mul, nI_add, nI_add, nI_add]
theorem pl_n {n : Nat} : 9 + 40 * (n % 4) + 4 * (n / 16) + n / 4 % 4 = 9 + 40 * (n % 4) + n / 4 := by omega
theorem ce_n {e D k : Nat} : ((nI D * 16) + (nI k * 4)) + nI e = nI (16 * D + 4 * k + e) := by
  rw [show (16 : Int32) = nI 16 from rfl, show (4 : Int32) = nI 4 from rfl, pk_mul, pk_mul, nI_add, nI_add, Nat.mul_comm D, Nat.mul_comm k]
theorem ix_0 : ix (0 : Int32) = 0 := by decide
theorem ix_2 : ix (2 : Int32) = 2 := by decide
theorem ix_3 : ix (3 : Int32) = 3 := by decide
theorem ix_4 : ix (4 : Int32) = 4 := by decide
theorem ix_5 : ix (5 : Int32) = 5 := by decide
theorem ix_6 : ix (6 : Int32) = 6 := by decide
theorem ix_7 : ix (7 : Int32) = 7 := by decide
theorem ix_8 : ix (8 : Int32) = 8 := by decide
theorem nI_i {a b : Nat} (ha : a < 2 ^ 31) (hb : b < 2 ^ 31) (h : nI a = nI b) : a = b := (nI_eq ha hb).mp h
theorem nI_m1 {a : Nat} (h : a < 2 ^ 31) : ¬ nI a = -1 := fun e => absurd (show ¬ nI a < 0 from nI_pos h) (by rw [e]; decide)
theorem nI_m2 {a : Nat} (h : a < 2 ^ 31) : ¬ nI a = -2 := fun e => absurd (show ¬ nI a < 0 from nI_pos h) (by rw [e]; decide)
/-- what a cell may hold -/
def Ce (P : Nat) (x : Int32) : Prop := x = -1 ∨ x = -2 ∨ ∃ p, p < P ∧ x = nI p
theorem Ce_pu {P : Nat} {x : Int32} (hP : P ≤ 12) (h : Ce P x) : ((¬ x < 0) ∧ (¬ nI P ≤ x)) ↔ ∃ p, p < P ∧ x = nI p := by
  constructor
  · rintro ⟨h1, h2⟩
    rcases h with h | h | h
    · subst h; exact absurd (by decide) h1
    · subst h; exact absurd (by decide) h1
    · exact h
  · rintro ⟨p, hp, rfl⟩
    exact ⟨nI_pos (by omega), nI_ge hp (by omega)⟩
theorem Ce_neg {P : Nat} {x : Int32} (hP : P ≤ 12) (h : Ce P x) : ¬ x < 0 ↔ ∃ p, p < P ∧ x = nI p := by
  constructor
  · intro h1
    rcases h with h | h | h
    · subst h; exact absurd (by decide) h1
    · subst h; exact absurd (by decide) h1
    · exact h
  · rintro ⟨p, hp, rfl⟩
    exact nI_pos (by omega)
/-- what is true of an office all the time: K bounds what grows -/
def Iv (K E P : Nat) (τ : Nat → Nat → Nat → Int32) : Prop :=
  (τ 0 0 1 = nI E ∧ E ≤ 4) ∧ (τ 0 0 2 = nI P ∧ P ≤ 12) ∧ (∃ D, τ 0 0 0 = nI D ∧ D ≤ 9999) ∧
  (∃ B, τ 0 0 3 = nI B ∧ B ≤ K ∧ ∀ p, p < P → τ 4 p 0 = 1 → ∃ b, τ 4 p 6 = nI b ∧ b < B) ∧
  (∀ p, p < P → ∃ v, τ 4 p 5 = nI v ∧ v ≤ K) ∧
  (∀ p, p < P → ∃ v, τ 4 p 0 = nI v ∧ v < 4) ∧
  Dw P τ ∧
  (∀ i, i < 160 → i % 4 < E → Ce P (τ 2 0 i)) ∧
  (∀ i, i < 160 → E ≤ i % 4 → τ 2 0 i = -2) ∧
  (∀ p, p < P → ∀ i, i < 160 → ∀ j, j < 160 → τ 2 0 i = nI p → τ 2 0 j = nI p → i = j) ∧
  (∀ p, p < P → ¬ τ 4 p 0 = 2 → ∀ i, i < 160 → ¬ τ 2 0 i = nI p) ∧
  (∀ p, P ≤ p → p < 12 → τ 4 p 0 = 0 ∧ τ 4 p 1 = 0 ∧ τ 4 p 3 = -1 ∧ τ 4 p 4 = -1 ∧ τ 4 p 5 = 0 ∧ τ 4 p 6 = 0 ∧ τ 4 p 7 = 0 ∧ τ 4 p 8 = 0) ∧
  (∀ e, E ≤ e → e < 4 → τ 5 e 1 = 0 ∧ τ 5 e 2 = 0 ∧ ∀ k, k < 4 → τ 6 e k = 0)
section IV
variable {K E P : Nat} {τ τ' : Nat → Nat → Nat → Int32} {s : Nat → Int32}
theorem Iv.hE (h : Iv K E P τ) : τ 0 0 1 = nI E := h.1.1
theorem Iv.E4 (h : Iv K E P τ) : E ≤ 4 := h.1.2
theorem Iv.hP (h : Iv K E P τ) : τ 0 0 2 = nI P := h.2.1.1
theorem Iv.P12 (h : Iv K E P τ) : P ≤ 12 := h.2.1.2
theorem Iv.dw (h : Iv K E P τ) : Dw P τ := h.2.2.2.2.2.2.1
theorem Iv.ce (h : Iv K E P τ) {i : Nat} (hi : i < 160) : Ce P (τ 2 0 i) := by
  by_cases q : i % 4 < E
  · exact h.2.2.2.2.2.2.2.1 i hi q
  · exact Or.inr (Or.inl (h.2.2.2.2.2.2.2.2.1 i hi (by omega)))
theorem Iv.ceE (h : Iv K E P τ) {i : Nat} (hi : i < 160) (hq : ¬ τ 2 0 i = -2) : i % 4 < E := by
  by_cases q : i % 4 < E
  · exact q
  · exact absurd (h.2.2.2.2.2.2.2.2.1 i hi (by omega)) hq
theorem Iv_ap (a : Ap τ τ') (h : Iv K E P τ') : Iv K E P τ := by
  have a0 := a 0 (by decide)
  have a2 := a 2 (by decide)
  have a4 := a 4 (by decide)
  have a5 := a 5 (by decide)
  have a6 := a 6 (by decide)
  unfold Iv Dw wt at *
  rw [a0, a2, a4, a5, a6]
  exact h
theorem Iv_up {K' : Nat} (hk : K ≤ K') (h : Iv K E P τ) : Iv K' E P τ := by
  obtain ⟨h1, h2, h3, ⟨B, hB, hBK, h4⟩, h5, h6⟩ := h
  refine ⟨h1, h2, h3, ⟨B, hB, by omega, h4⟩, fun p hp => ?_, h6⟩
  obtain ⟨v, hv, hvK⟩ := h5 p hp
  exact ⟨v, hv, by omega⟩
/-- the model's row shows the office -/
def Rel (E P : Nat) (τ : Nat → Nat → Nat → Int32) (s : Nat → Int32) : Prop :=
  (∀ k, k < 5 → s k = τ 0 0 k) ∧ (∀ k, k < 4 → s (5 + k) = τ 1 0 k) ∧
  (∀ n, n < 160 → n % 4 < E → s (9 + 40 * (n % 4) + n / 4) = τ 2 0 n) ∧
  (∀ p, p < P → ∀ k, k < 9 → s (197 + 12 * p + k) = τ 4 p k) ∧
  (∀ e, e < E → s (169 + 7 * e + 0) = sI (τ 6 e) 4 ∧ s (169 + 7 * e + 1) = τ 5 e 1 ∧ s (169 + 7 * e + 2) = τ 5 e 2 ∧ ∀ k, k < 4 → s (169 + 7 * e + (3 + k)) = τ 6 e k)
theorem Rel_ap (a : Ap τ τ') (h : Rel E P τ' s) : Rel E P τ s := by
  have a0 := a 0 (by decide)
  have a1 := a 1 (by decide)
  have a2 := a 2 (by decide)
  have a4 := a 4 (by decide)
  have a5 := a 5 (by decide)
  have a6 := a 6 (by decide)
  unfold Rel at *
  rw [a0, a1, a2, a4, a5, a6]
  exact h
theorem Rel_hd (h : Rel E P τ s) (hE : E ≤ 4) {k : Nat} (hk : k < 5) (x : Int32) : Rel E P (tI τ 0 0 k x) (upd s k x) := by
  obtain ⟨h1, h2, h3, h4, h5⟩ := h
  refine ⟨fun j hj => ?_, fun j hj => ?_, fun n hn hE => ?_, fun p hp j hj => ?_, fun e he => ?_⟩
  · by_cases q : j = k
    · subst q; rw [pk_us, tI_s]
    · rw [pk_un q, tI_k q, h1 j hj]
  · rw [pk_un (by omega), tI_t (by decide), h2 j hj]
  · rw [pk_un (by omega), tI_t (by decide), h3 n hn hE]
  · rw [pk_un (by omega), tI_t (by decide), h4 p hp j hj]
  · rw [pk_un (by omega), pk_un (by omega), pk_un (by omega), tI_t (by decide), tI_t (by decide)]
    obtain ⟨a, b, c, d⟩ := h5 e he
    exact ⟨a, b, c, fun j hj => by rw [pk_un (by omega), d j hj]⟩
theorem Rel_st (h : Rel E P τ s) (hE : E ≤ 4) {k : Nat} (hk : k < 4) (x : Int32) : Rel E P (tI τ 1 0 k x) (upd s (5 + k) x) := by
  obtain ⟨h1, h2, h3, h4, h5⟩ := h
  refine ⟨fun j hj => ?_, fun j hj => ?_, fun n hn hE => ?_, fun p hp j hj => ?_, fun e he => ?_⟩
  · rw [pk_un (by omega), tI_t (by decide), h1 j hj]
  · by_cases q : j = k
    · subst q; rw [pk_us, tI_s]
    · rw [pk_un (by omega), tI_k q, h2 j hj]
  · rw [pk_un (by omega), tI_t (by decide), h3 n hn hE]
  · rw [pk_un (by omega), tI_t (by decide), h4 p hp j hj]
  · rw [pk_un (by omega), pk_un (by omega), pk_un (by omega), tI_t (by decide), tI_t (by decide)]
    obtain ⟨a, b, c, d⟩ := h5 e he
    exact ⟨a, b, c, fun j hj => by rw [pk_un (by omega), d j hj]⟩
theorem Rel_ce (h : Rel E P τ s) (hE : E ≤ 4) {i : Nat} (hi : i < 160) (x : Int32) : Rel E P (tI τ 2 0 i x) (upd s (9 + 40 * (i % 4) + i / 4) x) := by
  obtain ⟨h1, h2, h3, h4, h5⟩ := h
  refine ⟨fun j hj => ?_, fun j hj => ?_, fun n hn hE => ?_, fun p hp j hj => ?_, fun e he => ?_⟩
  · rw [pk_un (by omega), tI_t (by decide), h1 j hj]
  · rw [pk_un (by omega), tI_t (by decide), h2 j hj]
  · by_cases q : n = i
    · subst q; rw [pk_us, tI_s]
    · rw [pk_un (by omega), tI_k q, h3 n hn hE]
  · rw [pk_un (by omega), tI_t (by decide), h4 p hp j hj]
  · rw [pk_un (by omega), pk_un (by omega), pk_un (by omega), tI_t (by decide), tI_t (by decide)]
    obtain ⟨a, b, c, d⟩ := h5 e he
    exact ⟨a, b, c, fun j hj => by rw [pk_un (by omega), d j hj]⟩
theorem Rel_pu (h : Rel E P τ s) (hE : E ≤ 4) {q k : Nat} (hk : k < 9) (x : Int32) : Rel E P (tI τ 4 q k x) (upd s (197 + 12 * q + k) x) := by
  obtain ⟨h1, h2, h3, h4, h5⟩ := h
  refine ⟨fun j hj => ?_, fun j hj => ?_, fun n hn hE => ?_, fun p hp j hj => ?_, fun e he => ?_⟩
  · rw [pk_un (by omega), tI_t (by decide), h1 j hj]
  · rw [pk_un (by omega), tI_t (by decide), h2 j hj]
  · rw [pk_un (by omega), tI_t (by decide), h3 n hn hE]
  · by_cases z : p = q
    · subst z
      by_cases z2 : j = k
      · subst z2; rw [pk_us, tI_s]
      · rw [pk_un (by omega), tI_k z2, h4 p hp j hj]
    · rw [pk_un (by omega), tI_j z, h4 p hp j hj]
  · rw [pk_un (by omega), pk_un (by omega), pk_un (by omega), tI_t (by decide), tI_t (by decide)]
    obtain ⟨a, b, c, d⟩ := h5 e he
    exact ⟨a, b, c, fun j hj => by rw [pk_un (by omega), d j hj]⟩
theorem Rel_ex (h : Rel E P τ s) (hE : E ≤ 4) {f k : Nat} (hf : f < E) (hk : k = 1 ∨ k = 2) (x : Int32) : Rel E P (tI τ 5 f k x) (upd s (169 + 7 * f + k) x) := by
  obtain ⟨h1, h2, h3, h4, h5⟩ := h
  refine ⟨fun j hj => ?_, fun j hj => ?_, fun n hn hE => ?_, fun p hp j hj => ?_, fun e he => ?_⟩
  · rw [pk_un (by omega), tI_t (by decide), h1 j hj]
  · rw [pk_un (by omega), tI_t (by decide), h2 j hj]
  · rw [pk_un (by omega), tI_t (by decide), h3 n hn hE]
  · rw [pk_un (by omega), tI_t (by decide), h4 p hp j hj]
  · obtain ⟨a, b, c, d⟩ := h5 e he
    rw [pk_un (show 169 + 7 * e + 0 ≠ 169 + 7 * f + k by omega), tI_t (show 6 ≠ 5 by decide)]
    refine ⟨a, ?_, ?_, fun j hj => by rw [pk_un (by omega), d j hj]⟩
    · by_cases z : e = f ∧ 1 = k
      · obtain ⟨z1, z2⟩ := z
        subst z1 z2
        rw [pk_us, tI_s]
      · rw [pk_un (by omega), tI_g, if_neg (fun y => z ⟨y.2.1, y.2.2⟩), b]
    · by_cases z : e = f ∧ 2 = k
      · obtain ⟨z1, z2⟩ := z
        subst z1 z2
        rw [pk_us, tI_s]
      · rw [pk_un (by omega), tI_g, if_neg (fun y => z ⟨y.2.1, y.2.2⟩), c]
theorem sI_upd {f : Nat → Int32} {x : Int32} : ∀ {n k : Nat}, k < n → sI (upd f k x) n = sI f n + (x - f k)
  | 0, _, h => by omega
  | n + 1, k, h => by
    rw [sI, sI]
    by_cases q : k = n
    · subst q
      rw [pk_us, sI_congr (h := f) (fun j hj => pk_un (by omega))]
      apply Int32.toBitVec_inj.mp
      simp only [Int32.toBitVec_add, Int32.toBitVec_sub]
      bv_omega
    · rw [pk_un (by omega), sI_upd (n := n) (k := k) (by omega)]
      apply Int32.toBitVec_inj.mp
      simp only [Int32.toBitVec_add, Int32.toBitVec_sub]
      bv_omega
/-- a test more on a route -/
theorem Rel_ro (h : Rel E P τ s) (hE : E ≤ 4) {f k : Nat} (hf : f < E) (hk : k < 4) : Rel E P (tI τ 6 f k (τ 6 f k + 1)) (upd (upd s (169 + 7 * f + 0) (s (169 + 7 * f + 0) + 1)) (169 + 7 * f + (3 + k)) ((upd s (169 + 7 * f + 0) (s (169 + 7 * f + 0) + 1)) (169 + 7 * f + (3 + k)) + 1)) := by
  obtain ⟨h1, h2, h3, h4, h5⟩ := h
  refine ⟨fun j hj => ?_, fun j hj => ?_, fun n hn hE => ?_, fun p hp j hj => ?_, fun e he => ?_⟩
  · rw [pk_un (by omega), pk_un (by omega), tI_t (by decide), h1 j hj]
  · rw [pk_un (by omega), pk_un (by omega), tI_t (by decide), h2 j hj]
  · rw [pk_un (by omega), pk_un (by omega), tI_t (by decide), h3 n hn hE]
  · rw [pk_un (by omega), pk_un (by omega), tI_t (by decide), h4 p hp j hj]
  · obtain ⟨a, b, c, d⟩ := h5 e he
    obtain ⟨a', b', c', d'⟩ := h5 f hf
    rw [tI_t (show 5 ≠ 6 by decide)]
    refine ⟨?_, ?_, ?_, fun j hj => ?_⟩
    · rw [pk_un (by omega)]
      by_cases z : e = f
      · subst z
        rw [pk_us, show tI τ 6 e k (τ 6 e k + 1) 6 e = upd (τ 6 e) k (τ 6 e k + 1) by simp [tI, tset], sI_upd hk, a]
        apply Int32.toBitVec_inj.mp
        simp only [Int32.toBitVec_add, Int32.toBitVec_sub]
        bv_omega
      · rw [pk_un (by omega), tI_j z, a]
    · rw [pk_un (by omega), pk_un (by omega), b]
    · rw [pk_un (by omega), pk_un (by omega), c]
    · by_cases z : e = f
      · subst z
        by_cases z2 : j = k
        · subst z2
          rw [pk_us, tI_s, pk_un (by omega), d j hj]
        · rw [pk_un (by omega), pk_un (by omega), tI_k z2, d j hj]
      · rw [pk_un (by omega), pk_un (by omega), tI_j z, d j hj]
end IV
