/-! WRITING AN OFFICE -/
/-- one place of an office's rows -/
def tI (τ : Nat → Nat → Nat → Int32) (t j k : Nat) (x : Int32) : Nat → Nat → Nat → Int32 := tset τ t j (upd (τ t j) k x)
theorem tI_s {τ : Nat → Nat → Nat → Int32} {t j k : Nat} {x : Int32} : tI τ t j k x t j k = x := by simp [tI, tset, upd]
theorem tI_t {τ : Nat → Nat → Nat → Int32} {t j k t' : Nat} {x : Int32} (h : t' ≠ t) : tI τ t j k x t' = τ t' := by funext j'; simp [tI, tset, h]
theorem tI_j {τ : Nat → Nat → Nat → Int32} {t j k j' : Nat} {x : Int32} (h : j' ≠ j) : tI τ t j k x t j' = τ t j' := by simp [tI, tset, h]
theorem tI_k {τ : Nat → Nat → Nat → Int32} {t j k k' : Nat} {x : Int32} (h : k' ≠ k) : tI τ t j k x t j k' = τ t j k' := by simp [tI, tset, upd, h]
theorem tI_g {τ : Nat → Nat → Nat → Int32} {t j k t' j' k' : Nat} {x : Int32} : tI τ t j k x t' j' k' = if t' = t ∧ j' = j ∧ k' = k then x else τ t' j' k' := by
  by_cases h1 : t' = t
  · subst h1
    by_cases h2 : j' = j
    · subst h2
      by_cases h3 : k' = k
      · subst h3; simp [tI_s]
      · simp [tI_k h3, h3]
    · simp [tI_j h2, h2]
  · simp [tI_t h1, h1]
theorem setI_eq {m : PM} {t r j k : Nat} {x : Int32} : setI m t r j k x = rset m r (tI (m.1 r) t j k x) := rfl
theorem rset_s {m : PM} {r : Nat} {τ : Nat → Nat → Nat → Int32} : (rset m r τ).1 r = τ := by simp [rset]
theorem rset_n {m : PM} {r r' : Nat} {τ : Nat → Nat → Nat → Int32} (h : r' ≠ r) : (rset m r τ).1 r' = m.1 r' := by simp [rset, h]
theorem rset_2 {m : PM} {r : Nat} {τ : Nat → Nat → Nat → Int32} : (rset m r τ).2 = m.2 := rfl
theorem rset_rset {m : PM} {r : Nat} {τ τ' : Nat → Nat → Nat → Int32} : rset (rset m r τ) r τ' = rset m r τ' := by
  unfold rset
  simp only [Prod.mk.injEq, and_true]
  funext r'
  by_cases h : r' = r <;> simp [h]
theorem rset_id {m : PM} {r : Nat} : rset m r (m.1 r) = m := by
  unfold rset
  apply Prod.ext
  · funext r'
    by_cases h : r' = r <;> simp [h]
  · rfl
/-- the same but the queue -/
def Ap (τ τ' : Nat → Nat → Nat → Int32) : Prop := ∀ t, t ≠ 3 → τ t = τ' t
theorem Ap_rfl {τ : Nat → Nat → Nat → Int32} : Ap τ τ := fun _ _ => by trivial
theorem Ap_trans {a b c : Nat → Nat → Nat → Int32} (h : Ap a b) (k : Ap b c) : Ap a c := fun t q => (h t q).trans (k t q)
theorem Ap_symm {a b : Nat → Nat → Nat → Int32} (h : Ap a b) : Ap b a := fun t q => (h t q).symm
theorem Ap_tI {a b : Nat → Nat → Nat → Int32} (h : Ap a b) (t j k : Nat) (x : Int32) : Ap (tI a t j k x) (tI b t j k x) := by
  intro t' q
  by_cases e : t' = t
  · subst e
    unfold tI tset
    simp only [h t' q]
  · rw [tI_t e, tI_t e, h t' q]
theorem Ap_tI3 {a : Nat → Nat → Nat → Int32} (j k : Nat) (x : Int32) : Ap (tI a 3 j k x) a := fun t q => tI_t q
theorem cN_mono {p q : Nat → Bool} : ∀ {n : Nat}, (∀ k, k < n → p k = true → q k = true) → cN p n ≤ cN q n
  | 0, _ => Nat.le_refl 0
  | n + 1, h => by
    have := cN_mono (n := n) (fun k hk => h k (by omega))
    have h2 := h n (by omega)
    rw [cN, cN]
    by_cases a : p n = true
    · rw [if_pos a, if_pos (h2 a)]; omega
    · rw [if_neg a]; omega
theorem cN_lt {p q : Nat → Bool} : ∀ {n j : Nat}, (∀ k, k < n → p k = true → q k = true) → j < n → p j = false → q j = true → cN p n < cN q n
  | 0, _, _, hj, _, _ => by omega
  | n + 1, j, h, hj, hp, hq => by
    rw [cN, cN]
    by_cases e : j = n
    · subst e
      have := cN_mono (n := j) (fun k hk => h k (by omega))
      rw [hp, hq]
      simp
      omega
    · have := cN_lt (n := n) (j := j) (fun k hk => h k (by omega)) (by omega) hp hq
      have h2 := h n (by omega)
      by_cases a : p n = true
      · rw [if_pos a, if_pos (h2 a)]; omega
      · rw [if_neg a]; omega
theorem cN_one {p q : Nat → Bool} : ∀ {n j : Nat}, (∀ k, k < n → k ≠ j → q k = p k) → j < n → p j = false → q j = true → cN q n = cN p n + 1
  | 0, _, _, hj, _, _ => by omega
  | n + 1, j, h, hj, hp, hq => by
    rw [cN, cN]
    by_cases e : j = n
    · subst e
      rw [cN_congr (n := j) (fun k hk => h k (by omega) (by omega)), hp, hq]
      simp
    · rw [cN_one (n := n) (j := j) (fun k hk => h k (by omega)) (by omega) hp hq, h n (by omega) (fun z => e z.symm)]
      omega
theorem cN_all {p : Nat → Bool} : ∀ {n : Nat}, n ≤ cN p n → ∀ k, k < n → p k = true
  | 0, _, _, hk => by omega
  | n + 1, h, k, hk => by
    rw [cN] at h
    have := cN_le p n
    by_cases a : p n = true
    · rw [if_pos a] at h
      rcases Nat.lt_succ_iff_lt_or_eq.mp hk with q | q
      · exact cN_all (by omega) k q
      · exact q ▸ a
    · rw [if_neg a] at h
      omega
/-- who stands at a place -/
def im (W : Nat → Bool) (f : Nat → Nat) : Nat → Nat → Bool
  | 0, _ => false
  | n + 1, k => im W f n k || (W n && decide (f n = k))
theorem im_of {W : Nat → Bool} {f : Nat → Nat} {k : Nat} : ∀ {n : Nat}, im W f n k = true → ∃ p, p < n ∧ W p = true ∧ f p = k
  | 0, h => by cases h
  | n + 1, h => by
    rw [im, Bool.or_eq_true] at h
    rcases h with h | h
    · obtain ⟨p, h1, h2⟩ := im_of h
      exact ⟨p, by omega, h2⟩
    · rw [Bool.and_eq_true, decide_eq_true_eq] at h
      exact ⟨n, by omega, h⟩
theorem im_cN {W : Nat → Bool} {f : Nat → Nat} {w : Nat} : ∀ {n : Nat}, (∀ p, p < n → W p = true → f p < w) → (∀ p, p < n → ∀ q, q < n → W p = true → W q = true → f p = f q → p = q) → cN W n ≤ cN (im W f n) w
  | 0, _, _ => Nat.zero_le _
  | n + 1, hl, hi => by
    have ih := im_cN (n := n) (fun p hp => hl p (by omega)) (fun p hp q hq => hi p (by omega) q (by omega))
    rw [cN]
    by_cases a : W n = true
    · have e0 : im W f n (f n) = false := by
        cases e : im W f n (f n) with
        | false => rfl
        | true =>
          obtain ⟨p, h1, h2, h3⟩ := im_of e
          have := hi p (by omega) n (by omega) h2 a h3
          omega
      have e1 : im W f (n + 1) (f n) = true := by
        rw [im, a]
        simp
      have e2 : ∀ k, k < w → k ≠ f n → im W f (n + 1) k = im W f n k := fun k _ hk => by
        rw [im, a]
        have : ¬ f n = k := fun z => hk z.symm
        simp [this]
      have := cN_one e2 (hl n (by omega) a) e0 e1
      rw [if_pos a, this]
      omega
    · rw [if_neg a]
      refine Nat.le_trans ih (cN_mono (fun k _ hk => ?_))
      rw [im, hk]
      rfl
/-- the order of those who wait -/
def wt (τ : Nat → Nat → Nat → Int32) (p : Nat) : Bool := decide (τ 4 p 0 = 1)
def wN (P : Nat) (τ : Nat → Nat → Nat → Int32) : Nat := cN (wt τ) P
def qAt (P : Nat) (τ : Nat → Nat → Nat → Int32) (k : Nat) : Nat := (fnd (fun p => wt τ p && decide (cPlace τ P p = k)) P 0).getD 0
/-- those who wait began at different times -/
def Dw (P : Nat) (τ : Nat → Nat → Nat → Int32) : Prop := ∀ p, p < P → ∀ q, q < P → wt τ p = true → wt τ q = true → τ 4 p 6 = τ 4 q 6 → p = q
theorem ah_iff {τ : Nat → Nat → Nat → Int32} {q p : Nat} : cAhead τ q p = true ↔ ((τ 4 p 5).toInt < (τ 4 q 5).toInt ∨ ((τ 4 q 5).toInt = (τ 4 p 5).toInt ∧ (τ 4 q 6).toInt < (τ 4 p 6).toInt)) := by
  rw [cAhead, decide_eq_true_eq, Int32.lt_iff_toInt_lt, Int32.le_iff_toInt_le, Int32.toInt_inj]
  constructor
  · rintro (h | ⟨h, k⟩)
    · exact Or.inl h
    · exact Or.inr ⟨h, by omega⟩
  · rintro (h | ⟨h, k⟩)
    · exact Or.inl h
    · exact Or.inr ⟨h, by omega⟩
theorem ah_irr {τ : Nat → Nat → Nat → Int32} {p : Nat} : cAhead τ p p = false := by
  cases h : cAhead τ p p with
  | false => rfl
  | true => rw [ah_iff] at h; omega
theorem ord1 {P : Nat} {τ : Nat → Nat → Nat → Int32} {p : Nat} (hp : p < P) (hw : wt τ p = true) : cPlace τ P p < wN P τ := by
  refine cN_lt (j := p) (fun k _ h => ?_) hp ?_ hw
  · rw [Bool.and_eq_true] at h
    exact h.1
  · rw [ah_irr, Bool.and_false]
theorem ord3 {P : Nat} {τ : Nat → Nat → Nat → Int32} (hd : Dw P τ) {p q : Nat} (hp : p < P) (hq : q < P) (hwp : wt τ p = true) (hwq : wt τ q = true) (h : cPlace τ P p = cPlace τ P q) : p = q := by
  have key : ∀ a b, a < P → b < P → wt τ a = true → wt τ b = true → cAhead τ a b = true → cPlace τ P a < cPlace τ P b := by
    intro a b ha hb hwa hwb hab
    refine cN_lt (j := a) (fun k _ hk => ?_) ha ?_ ?_
    · rw [Bool.and_eq_true] at hk ⊢
      refine ⟨hk.1, ?_⟩
      have h1 := hk.2
      rw [ah_iff] at h1 hab ⊢
      omega
    · rw [ah_irr, Bool.and_false]
    · rw [hab, Bool.and_true]
      exact hwa
  by_cases e : τ 4 p 6 = τ 4 q 6
  · exact hd p hp q hq hwp hwq e
  · exfalso
    have e2 : ¬ (τ 4 p 6).toInt = (τ 4 q 6).toInt := fun z => e (Int32.toInt_inj.mp z)
    by_cases h1 : cAhead τ p q = true
    · have := key p q hp hq hwp hwq h1
      omega
    · have h2 : cAhead τ q p = true := by
        rw [ah_iff] at h1 ⊢
        omega
      have := key q p hq hp hwq hwp h2
      omega
theorem ord2 {P : Nat} {τ : Nat → Nat → Nat → Int32} (hd : Dw P τ) {k : Nat} (hk : k < wN P τ) : qAt P τ k < P ∧ wt τ (qAt P τ k) = true ∧ cPlace τ P (qAt P τ k) = k := by
  have h1 := im_cN (W := wt τ) (f := cPlace τ P) (w := wN P τ) (n := P) (fun p hp hw => ord1 hp hw) (fun p hp q hq a b e => ord3 hd hp hq a b e)
  obtain ⟨p, hp, hw, he⟩ := im_of (cN_all h1 k hk)
  rw [qAt]
  cases e : fnd (fun p => wt τ p && decide (cPlace τ P p = k)) P 0 with
  | none =>
    have := fnd_none.mp e p (by omega) (by omega)
    rw [hw] at this
    simp [he] at this
  | some z =>
    obtain ⟨_, h3, h4, _⟩ := fnd_some e
    rw [Bool.and_eq_true, decide_eq_true_eq] at h4
    exact ⟨by simpa using h3, h4.1, h4.2⟩
theorem ord4 {P : Nat} {τ : Nat → Nat → Nat → Int32} (hd : Dw P τ) {p : Nat} (hp : p < P) (hw : wt τ p = true) : qAt P τ (cPlace τ P p) = p := by
  obtain ⟨a, b, e⟩ := ord2 hd (ord1 hp hw)
  exact ord3 hd a hp b hw e
