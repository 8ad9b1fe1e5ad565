/-! THE SLOTS -/
def Sh4 (B : BB) (S : Nat → Nat) (C : Nat → va_E) (k : Nat) : Prop := C k = .inr (4, [.ref (S (k + 1)), .ref (S (k + 27)), .ref (S (k + 53)), .int 0, .ref (S (k + 54))]) ∧ Sh1 B S C (k + 1) ∧ Sh1 B S C (k + 27) ∧ (∃ f : Nat → Option Nat, C (k + 53) = .inl (bc B 5, 6, .inr (.inr (.inr (.inr f)))) ∧ ∀ y, y < 6 → f y = some (S (k + 59 + 26 * y))) ∧ Sh2 B S C (k + 54) ∧ (∀ y, y < 6 → Sh1 B S C (k + 59 + 26 * y))
theorem Sh4.keep {B : BB} {S S' : Nat → Nat} {C C' : Nat → va_E} {k : Nat} (h : Sh4 B S C k) (hk : ∀ x, k ≤ x → x < k + 215 → C' x = C x ∧ S' x = S x) : Sh4 B S' C' k := by
  obtain ⟨h1, h2, h3, ⟨f4, h4, g4⟩, h5, h6⟩ := h
  refine ⟨?_, h2.keep (fun x a b => hk x (by omega) (by omega)), h3.keep (fun x a b => hk x (by omega) (by omega)), ⟨f4, (hk _ (by omega) (by omega)).1.trans h4, fun y hy => ?_⟩, h5.keep (fun x a b => hk x (by omega) (by omega)), fun y hy => (h6 y hy).keep (fun x a b => hk x (by omega) (by omega))⟩
  · rw [(hk k (by omega) (by omega)).1, (hk (k + 1) (by omega) (by omega)).2, (hk (k + 27) (by omega) (by omega)).2, (hk (k + 53) (by omega) (by omega)).2, (hk (k + 54) (by omega) (by omega)).2]
    exact h1
  · rw [(hk _ (by omega) (by omega)).2]
    exact g4 y hy
theorem lpS {B : BB} {d a b k c n : Nat} {S0 : Nat → Nat} {C0 : Nat → va_E} {L0 : List Value} {Q : EndQ} (ha : S0 k = a) (hL : C0 k = .inr (4, L0)) (hL7 : L0[2]? = some (.ref b)) (hb : S0 (k + 53) = b)
    (kk : ∀ (S : Nat → Nat) (C : Nat → va_E) (f : Nat → Option Nat), (∀ x, x < k + 59 → S x = S0 x) → (∀ x, x < k + 59 → x ≠ k + 53 → C x = C0 x) → C (k + 53) = .inl (bc B 5, 6, .inr (.inr (.inr (.inr f)))) → (∀ y, y < 6 → f y = some (S (k + 59 + 26 * y))) → (∀ y, y < 6 → Sh1 B S C (k + 59 + 26 * y)) → Wg B (d + 3) MX4_init c n 81 [(1, .int (nI 6)), (0, .ref a)] [] S C (k + 59 + 156) Q) :
    ∀ (r j : Nat) (S : Nat → Nat) (C : Nat → va_E) (f : Nat → Option Nat), j + r = 6 → (∀ x, x < k + 59 → S x = S0 x) → (∀ x, x < k + 59 → x ≠ k + 53 → C x = C0 x) → C (k + 53) = .inl (bc B 5, 6, .inr (.inr (.inr (.inr f)))) → (∀ y, y < j → f y = some (S (k + 59 + 26 * y))) → (∀ y, y < j → Sh1 B S C (k + 59 + 26 * y)) → Wg B (d + 3) MX4_init (c + 26 * r) (n + 338 * r) 53 [(1, .int (nI j)), (0, .ref a)] [] S C (k + 59 + 26 * j) Q := by
  intro r
  induction r with
  | zero =>
    intro j S C f hj hS hC hR hf hsh
    obtain rfl : j = 6 := by omega
    refine Wg.iload_n (k := 1) (x := nI 6) dX4_init_53 (by simp) ?_
    refine Wg.aload_n (k := 0) (a := a) dX4_init_54 (by simp) ?_
    refine Wg.getA (i := k) (fs := L0) (v := .ref b) dX4_init_55 fy4_19 ((hS k (by omega)).trans ha) (by omega) ((hC k (by omega) (by omega)).trans hL) hL7 ?_
    refine Wg.alenA (i := k + 53) (t := 5) (v := 6) dX4_init_58 ((hS _ (by omega)).trans hb) (by omega) hR rfl (by rfl) ?_
    refine Wg.icmpge (tgt := 81) dX4_init_59 (by rfl) (fun _ => ?_) (fun h => absurd (by decide) h)
    exact kk S C f hS hC hR hf hsh
  | succ r ih =>
    intro j S C f hj hS hC hR hf hsh
    refine Wg.iload_n (k := 1) (x := nI j) dX4_init_53 (by simp) ?_
    refine Wg.aload_n (k := 0) (a := a) dX4_init_54 (by simp) ?_
    refine Wg.getA (i := k) (fs := L0) (v := .ref b) dX4_init_55 fy4_19 ((hS k (by omega)).trans ha) (by omega) ((hC k (by omega) (by omega)).trans hL) hL7 ?_
    refine Wg.alenA (i := k + 53) (t := 5) (v := nI 6) dX4_init_58 ((hS _ (by omega)).trans hb) (by omega) hR rfl (by rfl) ?_
    refine Wg.icmpge (tgt := 81) dX4_init_59 (by rfl) (fun h => absurd h (ngeL (by omega) (by omega))) (fun _ => ?_)
    refine Wg.aload_n (k := 0) (a := a) dX4_init_62 (by simp) ?_
    refine Wg.getA (i := k) (fs := L0) (v := .ref b) dX4_init_63 fy4_19 ((hS k (by omega)).trans ha) (by omega) ((hC k (by omega) (by omega)).trans hL) hL7 ?_
    refine Wg.iload_n (k := 1) (x := nI j) dX4_init_66 (by simp) ?_
    rw [show c + 26 * (r + 1) = c + 26 * r + 25 + 1 by omega, show n + 338 * (r + 1) = n + 338 * r + 328 + 10 by omega]
    refine Wg.new (ci := 1) (k := 10) (fs := df1) dX4_init_67 nc1 (gT 26 (by decide +kernel) (by decide +kernel)) ?_
    intro S1 h1
    refine Wg.dup dX4_init_70 ?_
    refine Wg.callC (c := c + 26 * r) (n := n + 338 * r) (c1 := 25) (n1 := 328) dX4_init_71 fX1_init (gT 28 (by decide +kernel) (by decide +kernel)) (by simp [Value.category]) (ct1 (k := k + 59 + 26 * j) (va_up_self _ _ _)) ?_
    rintro S2 C2 N2 ⟨eN, h2, g2, sh2⟩
    obtain rfl : N2 = k + 59 + 26 * (j + 1) := by omega
    have gC : ∀ x, x < k + 59 + 26 * j → C2 x = C x := fun x hx => (g2 x hx).trans (va_up_ne _ _ (by omega))
    have gS : ∀ x, x < k + 59 + 26 * j → S2 x = S x := fun x hx => (h2 x (by omega)).trans (h1 x hx)
    have e1 : S2 (k + 59 + 26 * j) = S1 (k + 59 + 26 * j) := h2 _ (by omega)
    obtain ⟨vs, hvs⟩ : ∃ vs, C2 (k + 59 + 26 * j) = .inr (1, vs) := ⟨_, sh2.1⟩
    refine Wg.astqA (i := k + 53) (j := k + 59 + 26 * j) (t := 5) (k := 6) dX4_init_74 ((gS _ (by omega)).trans ((hS _ (by omega)).trans hb)) e1 (by omega) (by omega) ((gC _ (by omega)).trans hR) hvs rfl rfl (vp_in_nI (by omega) (by decide)) ?_
    refine Wg.iinc (k := 0) (x := nI j) (v := nI (j + 1)) dX4_init_75 rfl (by rw [← nI_1]; rfl) (by decide) ?_
    refine Wg.goto (tgt := 53) dX4_init_78 (by rfl) ?_
    refine Wg.few (ls' := [(1, .int (nI (j + 1))), (0, .ref a)]) (by simp [lsto, Value.category]) ?_
    refine ih (j + 1) S2 _ (va_up f j (some (S1 (k + 59 + 26 * j)))) (by omega) (fun x hx => (gS x (by omega)).trans (hS x hx)) (fun x hx hne => ?_) ?_ (fun y hy => ?_) (fun y hy => ?_)
    · rw [va_up_ne _ _ hne, gC x (by omega)]
      exact hC x hx hne
    · rw [va_up_self, show (nI j).toNatClampNeg = j from ixn (by omega)]
    · by_cases e : y = j
      · subst e
        rw [va_up_self, e1]
      · rw [va_up_ne _ _ e, hf y (by omega), gS _ (by omega)]
    · by_cases e : y = j
      · subst e
        exact Sh1.keep sh2 (fun x h3 h4 => ⟨va_up_ne _ _ (by omega), rfl⟩)
      · exact Sh1.keep (hsh y (by omega)) (fun x h3 h4 => ⟨(va_up_ne _ _ (by omega)).trans (gC x (by omega)), gS x (by omega)⟩)
set_option maxRecDepth 8000 in
theorem ct4 {B : BB} {d k : Nat} {S : Nat → Nat} {C : Nat → va_E} (hC0 : C k = .inr (4, df4)) : WY B (d + 3) MX4_init [.ref (S k)] 214 2957 S C (k + 1) (Qy B 215 1 S C k (Sh4 B)) := by
  unfold WY
  rw [show lv_args 0 [Value.ref (S k)] = [(0, Value.ref (S k))] from rfl]
  refine Wg.aload_n (k := 0) (a := (S k)) dX4_init_0 (by simp) ?_
  refine Wg.obj dX4_init_1 (gT 23 (by decide +kernel) (by decide +kernel)) obI obC ?_
  refine Wg.aload_n (k := 0) (a := (S k)) dX4_init_4 (by simp) ?_
  refine Wg.new (c := 213) (n := 2947) (ci := 1) (k := 10) (fs := df1) dX4_init_5 nc1 (gT 26 (by decide +kernel) (by decide +kernel)) ?_
  intro S1 h1
  refine Wg.dup dX4_init_8 ?_
  refine Wg.callC (c := 188) (n := 2619) (c1 := 25) (n1 := 328) dX4_init_9 fX1_init (gT 28 (by decide +kernel) (by decide +kernel)) (by simp [Value.category]) (ct1 (by simp [va_up])) ?_
  rintro S2 C2 N2 ⟨eN2, h2, g2, q2⟩
  obtain rfl : N2 = k + 27 := by omega
  refine Wg.putA (i := k) (fs := [.null, .null, .null, .int 0, .null]) dX4_init_12 fy4_12 ⟨rfl, by decide⟩ (by first | rfl | simp (disch := omega) only [h2, h1]) (by omega) (by simp (disch := omega) [va_up, Nat.add_assoc, hC0, g2]) (by simp) (by rfl) (by rfl) ?_
  refine Wg.aload_n (k := 0) (a := (S k)) dX4_init_15 (by simp) ?_
  refine Wg.new (c := 187) (n := 2609) (ci := 1) (k := 10) (fs := df1) dX4_init_16 nc1 (gT 26 (by decide +kernel) (by decide +kernel)) ?_
  intro S3 h3
  refine Wg.dup dX4_init_19 ?_
  refine Wg.callC (c := 162) (n := 2281) (c1 := 25) (n1 := 328) dX4_init_20 fX1_init (gT 28 (by decide +kernel) (by decide +kernel)) (by simp [Value.category]) (ct1 (by simp [va_up])) ?_
  rintro S4 C4 N4 ⟨eN4, h4, g4, q4⟩
  obtain rfl : N4 = k + 53 := by omega
  refine Wg.putA (i := k) (fs := [.ref (S1 (k + 1)), .null, .null, .int 0, .null]) dX4_init_23 fy4_16 ⟨rfl, by decide⟩ (by first | rfl | simp (disch := omega) only [h4, h3, h2, h1]) (by omega) (by simp (disch := omega) [va_up, Nat.add_assoc, hC0, g4, g2]) (by simp) (by rfl) (by rfl) ?_
  refine Wg.aload_n (k := 0) (a := (S k)) dX4_init_26 (by simp) ?_
  refine Wg.bipush (v := 6) dX4_init_27 (by rfl) ?_
  refine Wg.newq (c := 161) (n := 2275) (k := 6) (t := 5) dX4_init_29 (Or.inr (Or.inr ⟨rfl, rfl⟩)) (gT 26 (by decide +kernel) (by decide +kernel)) (by decide) (by decide +kernel) (by decide) ?_
  intro S5 h5
  refine Wg.putA (i := k) (fs := [.ref (S1 (k + 1)), .ref (S3 (k + 27)), .null, .int 0, .null]) dX4_init_32 fy4_19 ⟨rfl, by decide⟩ (by first | rfl | simp (disch := omega) only [h5, h4, h3, h2, h1]) (by omega) (by simp (disch := omega) [va_up, Nat.add_assoc, hC0, g4, g2]) (by simp) (by rfl) (by rfl) ?_
  refine Wg.aload_n (k := 0) (a := (S k)) dX4_init_35 (by simp) ?_
  refine Wg.iconst (v := 0) dX4_init_36 (by rfl) ?_
  refine Wg.putA (i := k) (fs := [.ref (S1 (k + 1)), .ref (S3 (k + 27)), .ref (S5 (k + 53)), .int 0, .null]) dX4_init_37 fy4_23 ⟨rfl, by decide⟩ (by first | rfl | simp (disch := omega) only [h5, h4, h3, h2, h1]) (by omega) (by simp (disch := omega) [va_up, Nat.add_assoc, hC0, g4, g2]) (by simp) (by rfl) (by rfl) ?_
  refine Wg.aload_n (k := 0) (a := (S k)) dX4_init_40 (by simp) ?_
  refine Wg.new (c := 160) (n := 2268) (ci := 2) (k := 7) (fs := df2) dX4_init_41 nc2 (gT 141 (by decide +kernel) (by decide +kernel)) ?_
  intro S6 h6
  refine Wg.dup dX4_init_44 ?_
  refine Wg.callNi (c := 156) (n := 2028) (c1 := 4) (n1 := 240) dX4_init_45 fX2_init (by decide) (by simp [Value.category]) (ct2 (by simp [va_up])) ?_
  rintro S7 C7 N7 ⟨eN7, h7, g7, q7⟩
  obtain rfl : N7 = k + 59 := by omega
  refine Wg.putA (i := k) (fs := [.ref (S1 (k + 1)), .ref (S3 (k + 27)), .ref (S5 (k + 53)), .int 0, .null]) dX4_init_48 fy4_30 ⟨rfl, by decide⟩ (by first | rfl | simp (disch := omega) only [h7, h6, h5, h4, h3, h2, h1]) (by omega) (by simp (disch := omega) [va_up, Nat.add_assoc, hC0, g7, g4, g2]) (by simp) (by rfl) (by rfl) ?_
  refine Wg.iconst (v := 0) dX4_init_51 (by rfl) ?_
  refine Wg.istore_n (k := 1) dX4_init_52 (by decide) ?_
  refine Wg.few (ls' := [(1, .int (nI 0)), (0, .ref (S k))]) (by simp [lsto, Value.category, n0I]) ?_
  obtain ⟨CC, hCC⟩ : ∃ CC, CC = va_up C7 k (.inr (4, [.ref (S1 (k + 1)), .ref (S3 (k + 27)), .ref (S5 (k + 53)), .int 0, .ref (S6 (k + 54))])) := ⟨_, rfl⟩
  rw [show ([.ref (S1 (k + 1)), .ref (S3 (k + 27)), .ref (S5 (k + 53)), .int 0, .null] : List Value).set 4 (.ref (S6 (k + 54))) = [.ref (S1 (k + 1)), .ref (S3 (k + 27)), .ref (S5 (k + 53)), .int 0, .ref (S6 (k + 54))] from rfl] 
  rw [← hCC]
  have cK : CC k = .inr (4, [.ref (S1 (k + 1)), .ref (S3 (k + 27)), .ref (S5 (k + 53)), .int 0, .ref (S6 (k + 54))]) := by rw [hCC]; exact va_up_self _ _ _
  have cR : CC (k + 53) = .inl (bc B 5, 6, .inr (.inr (.inr (.inr (fun _ => none))))) := by rw [hCC]; simp (disch := omega) [va_up, Nat.add_assoc, hC0, g7, g4, g2]
  have cO : ∀ x, k + 1 ≤ x → x < k + 27 → CC x = C2 x := fun x h1 h2 => by rw [hCC]; simp (disch := omega) only [va_up_ne, g7, g4]
  have cT : ∀ x, k + 27 ≤ x → x < k + 53 → CC x = C4 x := fun x h1 h2 => by rw [hCC]; simp (disch := omega) only [va_up_ne, g7]
  have cX : ∀ x, k + 54 ≤ x → CC x = C7 x := fun x h1 => by rw [hCC]; simp (disch := omega) only [va_up_ne]
  have cL : ∀ x, x < k → CC x = C x := fun x h1 => by rw [hCC]; simp (disch := omega) only [va_up_ne, g7, g4, g2]
  have a0 : S7 k = S k := (by first | rfl | simp (disch := omega) only [h7, h6, h5, h4, h3, h2, h1])
  have a1 : S7 (k + 1) = S1 (k + 1) := (by first | rfl | simp (disch := omega) only [h7, h6, h5, h4, h3, h2, h1])
  have a27 : S7 (k + 27) = S3 (k + 27) := (by first | rfl | simp (disch := omega) only [h7, h6, h5, h4, h3, h2, h1])
  have a53 : S7 (k + 53) = S5 (k + 53) := (by first | rfl | simp (disch := omega) only [h7, h6, h5, h4, h3, h2, h1])
  have a54 : S7 (k + 54) = S6 (k + 54) := (by first | rfl | simp (disch := omega) only [h7, h6, h5, h4, h3, h2, h1])
  have aO : ∀ x, x < k + 27 → S7 x = S2 x := fun x hx => by simp (disch := omega) only [h7, h6, h5, h4, h3]
  have aT : ∀ x, x < k + 53 → S7 x = S4 x := fun x hx => by simp (disch := omega) only [h7, h6, h5]
  have aL : ∀ x, x < k + 1 → S7 x = S x := fun x hx => by simp (disch := omega) only [h7, h6, h5, h4, h3, h2, h1]
  refine lpS (c := 0) (n := 0) (C0 := CC) (S0 := S7) (b := S5 (k + 53)) a0 cK rfl a53 ?_ 6 0 S7 CC (fun _ => none) rfl (fun _ _ => rfl) (fun _ _ _ => rfl) cR (fun y hy => absurd hy (by omega)) (fun y hy => absurd hy (by omega))
  intro S8 C8 f8 hS8 hC8 hR8 hf8 hs8
  refine Wg.stop ⟨dX4_init_81, rfl, rfl, by omega, fun x hx => (hS8 x (by omega)).trans (aL x hx), fun x hx => (hC8 x (by omega) (by omega)).trans (cL x hx), ?_, q2.keep (fun x h1 h2 => ⟨(hC8 x (by omega) (by omega)).trans (cO x (by omega) (by omega)), (hS8 x (by omega)).trans (aO x (by omega))⟩), q4.keep (fun x h1 h2 => ⟨(hC8 x (by omega) (by omega)).trans (cT x (by omega) (by omega)), (hS8 x (by omega)).trans (aT x (by omega))⟩), ⟨f8, hR8, hf8⟩, q7.keep (fun x h1 h2 => ⟨(hC8 x (by omega) (by omega)).trans (cX x (by omega)), hS8 x (by omega)⟩), hs8⟩
  rw [hC8 k (by omega) (by omega), cK, hS8 (k + 1) (by omega), hS8 (k + 27) (by omega), hS8 (k + 53) (by omega), hS8 (k + 54) (by omega), a1, a27, a53, a54]
