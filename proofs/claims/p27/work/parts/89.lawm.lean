/-! THE LAW'S OBJECT -/
set_option maxRecDepth 8000 in
theorem law_make {B : BB} {d c n b : Nat} {S : Nat → Nat} {C : Nat → va_E} {Q : EndQ} (kk : ∀ (S : Nat → Nat) (C : Nat → va_E), Sh4 B S C 0 → Q S C 215 10 [(2, .int 0), (1, .ref (S 0)), (0, .ref b)] c n) :
    Wg B (d + 4) ML_law (c + 214 + 1) (n + 2957 + 5) 0 [(0, .ref b)] [] S C 0 Q := by
  refine Wg.new (ci := 4) (k := 5) (fs := df4) dL_law_0 nc4 (gT 18 (by decide +kernel) (by decide +kernel)) ?_
  intro S1 h1
  refine Wg.dup dL_law_3 ?_
  refine Wg.callC (c := c) (n := n) (c1 := 214) (n1 := 2957) dL_law_4 fX4_init (gT 20 (by decide +kernel) (by decide +kernel)) (by simp [Value.category]) (ct4 (k := 0) (va_up_self _ _ _)) ?_
  rintro S2 C2 N2 ⟨eN2, h2, g2, q2⟩
  obtain rfl : N2 = 215 := by omega
  refine Wg.astore_n (k := 1) dL_law_7 (by decide) ?_
  refine Wg.iconst (v := 0) dL_law_8 (by rfl) ?_
  refine Wg.istore_n (k := 2) dL_law_9 (by decide) ?_
  have a0 : S2 0 = S1 0 := h2 0 (by omega)
  refine Wg.few (ls' := [(2, .int 0), (1, .ref (S2 0)), (0, .ref b)]) (by simp [lsto, Value.category, a0]) ?_
  exact Wg.stop (kk S2 _ q2)
