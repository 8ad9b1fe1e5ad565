/-! THE OFFICE'S LOOPS -/
theorem Sh3.keep {B : BB} {S S' : Nat → Nat} {C C' : Nat → va_E} {k : Nat} (h : Sh3 B S C k) (hk : ∀ x, k ≤ x → x < k + 1 → C' x = C x ∧ S' x = S x) : Sh3 B S' C' k := by
  unfold Sh3 at *
  rw [(hk k (by omega) (by omega)).1]
  exact h
theorem Sh0.keep {B : BB} {S S' : Nat → Nat} {C C' : Nat → va_E} {k : Nat} (h : Sh0 B S C k) (hk : ∀ x, k ≤ x → x < k + 2 → C' x = C x ∧ S' x = S x) : Sh0 B S' C' k := by
  unfold Sh0 at *
  rw [(hk k (by omega) (by omega)).1, (hk (k + 1) (by omega) (by omega)).1, (hk (k + 1) (by omega) (by omega)).2]
  exact h
theorem Sh2.keep {B : BB} {S S' : Nat → Nat} {C C' : Nat → va_E} {k : Nat} (h : Sh2 B S C k) (hk : ∀ x, k ≤ x → x < k + 5 → C' x = C x ∧ S' x = S x) : Sh2 B S' C' k := by
  unfold Sh2 at *
  rw [(hk k (by omega) (by omega)).1, (hk (k + 1) (by omega) (by omega)).1, (hk (k + 2) (by omega) (by omega)).1, (hk (k + 3) (by omega) (by omega)).1, (hk (k + 4) (by omega) (by omega)).1, (hk (k + 1) (by omega) (by omega)).2, (hk (k + 2) (by omega) (by omega)).2, (hk (k + 3) (by omega) (by omega)).2, (hk (k + 4) (by omega) (by omega)).2]
  exact h
def Sh1 (B : BB) (S : Nat → Nat) (C : Nat → va_E) (k : Nat) : Prop := C k = .inr (1, [.int 0, .int 0, .int 0, .int 0, .int 0, .ref (S (k + 1)), .ref (S (k + 2)), .ref (S (k + 3)), .ref (S (k + 4)), .ref (S (k + 5))]) ∧ (∃ f : Nat → Int32, C (k + 1) = .inl (bc B 0, 4, .inl f) ∧ ∀ y, y < 4 → f y = fs4 y) ∧ (∃ f : Nat → Int32, C (k + 2) = .inl (bc B 0, 160, .inl f) ∧ ∀ y, y < 160 → f y = -2) ∧ (∃ f : Nat → Option Nat, C (k + 3) = .inl (bc B 3, 12, .inr (.inr (.inr (.inr f)))) ∧ ∀ y, y < 12 → f y = some (S (k + 6 + 1 * y))) ∧ (∃ f : Nat → Option Nat, C (k + 4) = .inl (bc B 4, 4, .inr (.inr (.inr (.inr f)))) ∧ ∀ y, y < 4 → f y = some (S (k + 18 + 2 * y))) ∧ C (k + 5) = .inl (bc B 0, 12, .inl (fun _ => 0)) ∧ (∀ y, y < 12 → Sh3 B S C (k + 6 + 1 * y)) ∧ (∀ y, y < 4 → Sh0 B S C (k + 18 + 2 * y))
theorem Sh1.keep {B : BB} {S S' : Nat → Nat} {C C' : Nat → va_E} {k : Nat} (h : Sh1 B S C k) (hk : ∀ x, k ≤ x → x < k + 26 → C' x = C x ∧ S' x = S x) : Sh1 B S' C' k := by
  obtain ⟨h1, ⟨f2, h2, g2⟩, ⟨f3, h3, g3⟩, ⟨f4, h4, g4⟩, ⟨f5, h5, g5⟩, h6, h7, h8⟩ := h
  refine ⟨?_, ⟨f2, (hk _ (by omega) (by omega)).1.trans h2, g2⟩, ⟨f3, (hk _ (by omega) (by omega)).1.trans h3, g3⟩, ⟨f4, (hk _ (by omega) (by omega)).1.trans h4, fun y hy => ?_⟩, ⟨f5, (hk _ (by omega) (by omega)).1.trans h5, fun y hy => ?_⟩, (hk _ (by omega) (by omega)).1.trans h6, fun y hy => (h7 y hy).keep (fun x a b => hk x (by omega) (by omega)), fun y hy => (h8 y hy).keep (fun x a b => hk x (by omega) (by omega))⟩
  · rw [(hk k (by omega) (by omega)).1, (hk (k + 1) (by omega) (by omega)).2, (hk (k + 2) (by omega) (by omega)).2, (hk (k + 3) (by omega) (by omega)).2, (hk (k + 4) (by omega) (by omega)).2, (hk (k + 5) (by omega) (by omega)).2]
    exact h1
  · rw [(hk _ (by omega) (by omega)).2]
    exact g4 y hy
  · rw [(hk _ (by omega) (by omega)).2]
    exact g5 y hy
theorem lpP {B : BB} {d a b k c n : Nat} {S0 : Nat → Nat} {C0 : Nat → va_E} {L0 : List Value} {Q : EndQ} (ha : S0 k = a) (hL : C0 k = .inr (1, L0)) (hL7 : L0[7]? = some (.ref b)) (hb : S0 (k + 3) = b)
    (kk : ∀ (S : Nat → Nat) (C : Nat → va_E) (f : Nat → Option Nat), (∀ x, x < k + 6 → S x = S0 x) → (∀ x, x < k + 6 → x ≠ k + 3 → C x = C0 x) → C (k + 3) = .inl (bc B 3, 12, .inr (.inr (.inr (.inr f)))) → (∀ y, y < 12 → f y = some (S (k + 6 + 1 * y))) → (∀ y, y < 12 → Sh3 B S C (k + 6 + 1 * y)) → Wg B (d + 2) MX1_init c n 129 [(1, .int (nI 12)), (0, .ref a)] [] S C (k + 6 + 12) Q) :
    ∀ (r j : Nat) (S : Nat → Nat) (C : Nat → va_E) (f : Nat → Option Nat), j + r = 12 → (∀ x, x < k + 6 → S x = S0 x) → (∀ x, x < k + 6 → x ≠ k + 3 → C x = C0 x) → C (k + 3) = .inl (bc B 3, 12, .inr (.inr (.inr (.inr f)))) → (∀ y, y < j → f y = some (S (k + 6 + 1 * y))) → (∀ y, y < j → Sh3 B S C (k + 6 + 1 * y)) → Wg B (d + 2) MX1_init (c + 1 * r) (n + 9 * r) 101 [(1, .int (nI j)), (0, .ref a)] [] S C (k + 6 + 1 * j) Q := by
  intro r
  induction r with
  | zero =>
    intro j S C f hj hS hC hR hf hsh
    obtain rfl : j = 12 := by omega
    refine Wg.iload_n (k := 1) (x := nI 12) dX1_init_101 (by simp) ?_
    refine Wg.aload_n (k := 0) (a := a) dX1_init_102 (by simp) ?_
    refine Wg.getA (i := k) (fs := L0) (v := .ref b) dX1_init_103 fy1_39 ((hS k (by omega)).trans ha) (by omega) ((hC k (by omega) (by omega)).trans hL) hL7 ?_
    refine Wg.alenA (i := k + 3) (t := 3) (v := 12) dX1_init_106 ((hS _ (by omega)).trans hb) (by omega) hR rfl (by rfl) ?_
    refine Wg.icmpge (tgt := 129) dX1_init_107 (by rfl) (fun _ => ?_) (fun h => absurd (by decide) h)
    exact kk S C f hS hC hR hf hsh
  | succ r ih =>
    intro j S C f hj hS hC hR hf hsh
    refine Wg.iload_n (k := 1) (x := nI j) dX1_init_101 (by simp) ?_
    refine Wg.aload_n (k := 0) (a := a) dX1_init_102 (by simp) ?_
    refine Wg.getA (i := k) (fs := L0) (v := .ref b) dX1_init_103 fy1_39 ((hS k (by omega)).trans ha) (by omega) ((hC k (by omega) (by omega)).trans hL) hL7 ?_
    refine Wg.alenA (i := k + 3) (t := 3) (v := nI 12) dX1_init_106 ((hS _ (by omega)).trans hb) (by omega) hR rfl (by rfl) ?_
    refine Wg.icmpge (tgt := 129) dX1_init_107 (by rfl) (fun h => absurd h (ngeL (by omega) (by omega))) (fun _ => ?_)
    refine Wg.aload_n (k := 0) (a := a) dX1_init_110 (by simp) ?_
    refine Wg.getA (i := k) (fs := L0) (v := .ref b) dX1_init_111 fy1_39 ((hS k (by omega)).trans ha) (by omega) ((hC k (by omega) (by omega)).trans hL) hL7 ?_
    refine Wg.iload_n (k := 1) (x := nI j) dX1_init_114 (by simp) ?_
    rw [show c + 1 * (r + 1) = c + 1 * r + 0 + 1 by omega, show n + 9 * (r + 1) = n + 9 * r + 0 + 9 by omega]
    refine Wg.new (ci := 3) (k := 9) (fs := df3) dX1_init_115 nc3 (gT 34 (by decide +kernel) (by decide +kernel)) ?_
    intro S1 h1
    refine Wg.dup dX1_init_118 ?_
    refine Wg.callNi (c := c + 1 * r) (n := n + 9 * r) (c1 := 0) (n1 := 0) dX1_init_119 fX3_init (by decide) (by simp [Value.category]) (ct3 (k := k + 6 + 1 * j) (va_up_self _ _ _)) ?_
    rintro S2 C2 N2 ⟨eN, h2, g2, sh2⟩
    obtain rfl : N2 = k + 6 + 1 * (j + 1) := by omega
    have gC : ∀ x, x < k + 6 + 1 * j → C2 x = C x := fun x hx => (g2 x hx).trans (va_up_ne _ _ (by omega))
    have gS : ∀ x, x < k + 6 + 1 * j → S2 x = S x := fun x hx => (h2 x (by omega)).trans (h1 x hx)
    have e1 : S2 (k + 6 + 1 * j) = S1 (k + 6 + 1 * j) := h2 _ (by omega)
    obtain ⟨vs, hvs⟩ : ∃ vs, C2 (k + 6 + 1 * j) = .inr (3, vs) := ⟨_, sh2⟩
    refine Wg.astqA (i := k + 3) (j := k + 6 + 1 * j) (t := 3) (k := 12) dX1_init_122 ((gS _ (by omega)).trans ((hS _ (by omega)).trans hb)) e1 (by omega) (by omega) ((gC _ (by omega)).trans hR) hvs rfl rfl (vp_in_nI (by omega) (by decide)) ?_
    refine Wg.iinc (k := 0) (x := nI j) (v := nI (j + 1)) dX1_init_123 rfl (by rw [← nI_1]; rfl) (by decide) ?_
    refine Wg.goto (tgt := 101) dX1_init_126 (by rfl) ?_
    refine Wg.few (ls' := [(1, .int (nI (j + 1))), (0, .ref a)]) (by simp [lsto, Value.category]) ?_
    refine ih (j + 1) S2 _ (va_up f j (some (S1 (k + 6 + 1 * j)))) (by omega) (fun x hx => (gS x (by omega)).trans (hS x hx)) (fun x hx hne => ?_) ?_ (fun y hy => ?_) (fun y hy => ?_)
    · rw [va_up_ne _ _ hne, gC x (by omega)]
      exact hC x hx hne
    · rw [va_up_self, show (nI j).toNatClampNeg = j from ixn (by omega)]
    · by_cases e : y = j
      · subst e
        rw [va_up_self, e1]
      · rw [va_up_ne _ _ e, hf y (by omega), gS _ (by omega)]
    · by_cases e : y = j
      · subst e
        exact Sh3.keep sh2 (fun x h3 h4 => ⟨va_up_ne _ _ (by omega), rfl⟩)
      · exact Sh3.keep (hsh y (by omega)) (fun x h3 h4 => ⟨(va_up_ne _ _ (by omega)).trans (gC x (by omega)), gS x (by omega)⟩)
theorem lpE {B : BB} {d a b k c n : Nat} {S0 : Nat → Nat} {C0 : Nat → va_E} {L0 : List Value} {Q : EndQ} (ha : S0 k = a) (hL : C0 k = .inr (1, L0)) (hL7 : L0[8]? = some (.ref b)) (hb : S0 (k + 4) = b)
    (kk : ∀ (S : Nat → Nat) (C : Nat → va_E) (f : Nat → Option Nat), (∀ x, x < k + 18 → S x = S0 x) → (∀ x, x < k + 18 → x ≠ k + 4 → C x = C0 x) → C (k + 4) = .inl (bc B 4, 4, .inr (.inr (.inr (.inr f)))) → (∀ y, y < 4 → f y = some (S (k + 18 + 2 * y))) → (∀ y, y < 4 → Sh0 B S C (k + 18 + 2 * y)) → Wg B (d + 2) MX1_init c n 159 [(1, .int (nI 4)), (0, .ref a)] [] S C (k + 18 + 8) Q) :
    ∀ (r j : Nat) (S : Nat → Nat) (C : Nat → va_E) (f : Nat → Option Nat), j + r = 4 → (∀ x, x < k + 18 → S x = S0 x) → (∀ x, x < k + 18 → x ≠ k + 4 → C x = C0 x) → C (k + 4) = .inl (bc B 4, 4, .inr (.inr (.inr (.inr f)))) → (∀ y, y < j → f y = some (S (k + 18 + 2 * y))) → (∀ y, y < j → Sh0 B S C (k + 18 + 2 * y)) → Wg B (d + 2) MX1_init (c + 2 * r) (n + 7 * r) 131 [(1, .int (nI j)), (0, .ref a)] [] S C (k + 18 + 2 * j) Q := by
  intro r
  induction r with
  | zero =>
    intro j S C f hj hS hC hR hf hsh
    obtain rfl : j = 4 := by omega
    refine Wg.iload_n (k := 1) (x := nI 4) dX1_init_131 (by simp) ?_
    refine Wg.aload_n (k := 0) (a := a) dX1_init_132 (by simp) ?_
    refine Wg.getA (i := k) (fs := L0) (v := .ref b) dX1_init_133 fy1_45 ((hS k (by omega)).trans ha) (by omega) ((hC k (by omega) (by omega)).trans hL) hL7 ?_
    refine Wg.alenA (i := k + 4) (t := 4) (v := 4) dX1_init_136 ((hS _ (by omega)).trans hb) (by omega) hR rfl (by rfl) ?_
    refine Wg.icmpge (tgt := 159) dX1_init_137 (by rfl) (fun _ => ?_) (fun h => absurd (by decide) h)
    exact kk S C f hS hC hR hf hsh
  | succ r ih =>
    intro j S C f hj hS hC hR hf hsh
    refine Wg.iload_n (k := 1) (x := nI j) dX1_init_131 (by simp) ?_
    refine Wg.aload_n (k := 0) (a := a) dX1_init_132 (by simp) ?_
    refine Wg.getA (i := k) (fs := L0) (v := .ref b) dX1_init_133 fy1_45 ((hS k (by omega)).trans ha) (by omega) ((hC k (by omega) (by omega)).trans hL) hL7 ?_
    refine Wg.alenA (i := k + 4) (t := 4) (v := nI 4) dX1_init_136 ((hS _ (by omega)).trans hb) (by omega) hR rfl (by rfl) ?_
    refine Wg.icmpge (tgt := 159) dX1_init_137 (by rfl) (fun h => absurd h (ngeL (by omega) (by omega))) (fun _ => ?_)
    refine Wg.aload_n (k := 0) (a := a) dX1_init_140 (by simp) ?_
    refine Wg.getA (i := k) (fs := L0) (v := .ref b) dX1_init_141 fy1_45 ((hS k (by omega)).trans ha) (by omega) ((hC k (by omega) (by omega)).trans hL) hL7 ?_
    refine Wg.iload_n (k := 1) (x := nI j) dX1_init_144 (by simp) ?_
    rw [show c + 2 * (r + 1) = c + 2 * r + 1 + 1 by omega, show n + 7 * (r + 1) = n + 7 * r + 4 + 3 by omega]
    refine Wg.new (ci := 0) (k := 3) (fs := df0) dX1_init_145 nc0 (gT 36 (by decide +kernel) (by decide +kernel)) ?_
    intro S1 h1
    refine Wg.dup dX1_init_148 ?_
    refine Wg.callNi (c := c + 2 * r) (n := n + 7 * r) (c1 := 1) (n1 := 4) dX1_init_149 fX0_init (by decide) (by simp [Value.category]) (ct0 (k := k + 18 + 2 * j) (va_up_self _ _ _)) ?_
    rintro S2 C2 N2 ⟨eN, h2, g2, sh2⟩
    obtain rfl : N2 = k + 18 + 2 * (j + 1) := by omega
    have gC : ∀ x, x < k + 18 + 2 * j → C2 x = C x := fun x hx => (g2 x hx).trans (va_up_ne _ _ (by omega))
    have gS : ∀ x, x < k + 18 + 2 * j → S2 x = S x := fun x hx => (h2 x (by omega)).trans (h1 x hx)
    have e1 : S2 (k + 18 + 2 * j) = S1 (k + 18 + 2 * j) := h2 _ (by omega)
    obtain ⟨vs, hvs⟩ : ∃ vs, C2 (k + 18 + 2 * j) = .inr (0, vs) := ⟨_, sh2.1⟩
    refine Wg.astqA (i := k + 4) (j := k + 18 + 2 * j) (t := 4) (k := 4) dX1_init_152 ((gS _ (by omega)).trans ((hS _ (by omega)).trans hb)) e1 (by omega) (by omega) ((gC _ (by omega)).trans hR) hvs rfl rfl (vp_in_nI (by omega) (by decide)) ?_
    refine Wg.iinc (k := 0) (x := nI j) (v := nI (j + 1)) dX1_init_153 rfl (by rw [← nI_1]; rfl) (by decide) ?_
    refine Wg.goto (tgt := 131) dX1_init_156 (by rfl) ?_
    refine Wg.few (ls' := [(1, .int (nI (j + 1))), (0, .ref a)]) (by simp [lsto, Value.category]) ?_
    refine ih (j + 1) S2 _ (va_up f j (some (S1 (k + 18 + 2 * j)))) (by omega) (fun x hx => (gS x (by omega)).trans (hS x hx)) (fun x hx hne => ?_) ?_ (fun y hy => ?_) (fun y hy => ?_)
    · rw [va_up_ne _ _ hne, gC x (by omega)]
      exact hC x hx hne
    · rw [va_up_self, show (nI j).toNatClampNeg = j from ixn (by omega)]
    · by_cases e : y = j
      · subst e
        rw [va_up_self, e1]
      · rw [va_up_ne _ _ e, hf y (by omega), gS _ (by omega)]
    · by_cases e : y = j
      · subst e
        exact Sh0.keep sh2 (fun x h3 h4 => ⟨va_up_ne _ _ (by omega), rfl⟩)
      · exact Sh0.keep (hsh y (by omega)) (fun x h3 h4 => ⟨(va_up_ne _ _ (by omega)).trans (gC x (by omega)), gS x (by omega)⟩)
