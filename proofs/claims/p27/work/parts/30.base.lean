/-! THE FUNCTIONAL LAYER: words of the specification -/
theorem ixn {i : Nat} (h : i < 2 ^ 31) : ix (nI i) = i := nI_clamp h
/-- the first place from i on, among k, where p holds -/
def fnd (p : Nat → Bool) : Nat → Nat → Option Nat
  | 0, _ => none
  | k + 1, i => if p i then some i else fnd p k (i + 1)
def oI : Option Nat → Int32
  | none => -1
  | some i => nI i
theorem fnd_congr {p q : Nat → Bool} : ∀ {k i : Nat}, (∀ j, i ≤ j → j < i + k → p j = q j) → fnd p k i = fnd q k i
  | 0, _, _ => rfl
  | k + 1, i, h => by
    rw [fnd, fnd, h i (Nat.le_refl i) (by omega), fnd_congr (k := k) (i := i + 1) (fun j h1 h2 => h j (by omega) (by omega))]
theorem fnd_some {p : Nat → Bool} : ∀ {k i j : Nat}, fnd p k i = some j → i ≤ j ∧ j < i + k ∧ p j = true ∧ ∀ l, i ≤ l → l < j → p l = false
  | 0, _, _, h => by cases h
  | k + 1, i, j, h => by
    rw [fnd] at h
    by_cases hp : p i = true
    · rw [if_pos hp] at h
      cases h
      exact ⟨Nat.le_refl _, by omega, hp, fun l h1 h2 => by omega⟩
    · rw [if_neg hp] at h
      obtain ⟨a, b, c, e⟩ := fnd_some (k := k) h
      refine ⟨by omega, by omega, c, fun l h1 h2 => ?_⟩
      rcases Nat.eq_or_lt_of_le h1 with q | q
      · subst q; simpa using hp
      · exact e l q h2
theorem fnd_none {p : Nat → Bool} : ∀ {k i : Nat}, fnd p k i = none ↔ ∀ j, i ≤ j → j < i + k → p j = false
  | 0, i => by simp [fnd]; intro j h1 h2; omega
  | k + 1, i => by
    rw [fnd]
    by_cases hp : p i = true
    · rw [if_pos hp]
      constructor
      · intro h; cases h
      · intro h; rw [h i (Nat.le_refl _) (by omega)] at hp; cases hp
    · rw [if_neg hp, fnd_none (k := k)]
      constructor
      · intro h j h1 h2
        rcases Nat.eq_or_lt_of_le h1 with q | q
        · subst q; simpa using hp
        · exact h j q (by omega)
      · intro h j h1 h2; exact h j (by omega) (by omega)
theorem fnd_hit {p : Nat → Bool} {k i j : Nat} (h1 : i ≤ j) (h2 : j < i + k) (hp : p j = true) (hn : ∀ l, i ≤ l → l < j → p l = false) : fnd p k i = some j := by
  cases h : fnd p k i with
  | none => rw [fnd_none.mp h j h1 h2] at hp; cases hp
  | some z =>
    obtain ⟨a, b, c, e⟩ := fnd_some h
    rcases Nat.lt_trichotomy z j with q | q | q
    · rw [hn z a q] at c; cases c
    · rw [q]
    · rw [e j h1 q] at hp; cases hp
/-- sums and counts below n -/
def sI (f : Nat → Int32) : Nat → Int32
  | 0 => 0
  | n + 1 => sI f n + f n
def cN (p : Nat → Bool) : Nat → Nat
  | 0 => 0
  | n + 1 => cN p n + if p n then 1 else 0
theorem sI_congr {f h : Nat → Int32} : ∀ {n : Nat}, (∀ k, k < n → f k = h k) → sI f n = sI h n
  | 0, _ => rfl
  | n + 1, e => by rw [sI, sI, sI_congr (n := n) (fun k hk => e k (by omega)), e n (by omega)]
theorem cN_congr {f h : Nat → Bool} : ∀ {n : Nat}, (∀ k, k < n → f k = h k) → cN f n = cN h n
  | 0, _ => rfl
  | n + 1, e => by rw [cN, cN, cN_congr (n := n) (fun k hk => e k (by omega)), e n (by omega)]
theorem cN_le (p : Nat → Bool) : ∀ n, cN p n ≤ n
  | 0 => Nat.le_refl 0
  | n + 1 => by have := cN_le p n; rw [cN]; split <;> omega
/-- a loop that counts up to N, with a state beside -/
theorem Wq.up {g : GG} {d : Nat} {M : MD} {c n pc : Nat} {Q : Ou → PM → Nat → Nat → Prop} {S : Type} (N : Nat) (L : Nat → S → List (Option PV)) (mem : Nat → S → PM) (I : Nat → S → Prop) (hx : ∀ s, I N s → Wq g d M c n pc (L N s) [] (mem N s) Q) (hs : ∀ i s, i < N → I i s → (∀ s', I (i + 1) s' → Wq g d M c n pc (L (i + 1) s') [] (mem (i + 1) s') Q) → Wq g d M c n pc (L i s) [] (mem i s) Q) : ∀ (i : Nat) (s : S), i ≤ N → I i s → Wq g d M c n pc (L i s) [] (mem i s) Q := by
  intro i s hi hI
  obtain ⟨k, hk⟩ : ∃ k, i + k = N := ⟨N - i, by omega⟩
  induction k generalizing i s with
  | zero =>
    have e : i = N := by omega
    subst e
    exact hx s hI
  | succ k ih => exact hs i s (by omega) hI (fun s' h' => ih (i + 1) s' (by omega) h' (by omega))
theorem geL {N i : Nat} (h : N ≤ i) (hi : i < 2 ^ 31) : nI N ≤ nI i := nI_le h hi
theorem ngeL {N i : Nat} (h : i < N) (hN : N < 2 ^ 31) : ¬ nI N ≤ nI i := nI_ge h hN
