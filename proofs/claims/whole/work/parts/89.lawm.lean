/-! THE LAW'S OBJECTS -/
set_option maxRecDepth 8000 in
theorem law_make {B : BB} {d c n b : Nat} {S : Nat → Nat} {C : Nat → va_E} {Q : EndQ} (kk : ∀ (S : Nat → Nat) (C : Nat → va_E), Sh4 B S C 0 → Sh5 B S C 215 → C 226 = .inl (bc B 2, 1, .inr (.inl (fun _ => 0))) → Q S C 227 23 [(4, .int 0), (3, .ref (S 226)), (2, .ref (S 215)), (1, .ref (S 0)), (0, .ref b)] c n) :
    Wg B (d + 4) ML_law (c + 1 + 10 + 1 + 214 + 1) (n + 1 + 2859 + 16 + 2957 + 5) 0 [(0, .ref b)] [] S C 0 Q := by
  refine Wg.new (ci := 4) (k := 5) (fs := df4) dL_law_0 nc4 (gT 67 (by decide +kernel) (by decide +kernel)) ?_
  intro S1 h1
  refine Wg.dup dL_law_3 ?_
  refine Wg.callC (c := c + 1 + 10 + 1) (n := n + 1 + 2859 + 16) (c1 := 214) (n1 := 2957) dL_law_4 fX4_init (gT 69 (by decide +kernel) (by decide +kernel)) (by simp [Value.category]) (ct4 (k := 0) (va_up_self _ _ _)) ?_
  rintro S2 C2 N2 ⟨eN2, h2, g2, q2⟩
  obtain rfl : N2 = 215 := by omega
  refine Wg.astore_n (k := 1) dL_law_7 (by decide) ?_
  refine Wg.new (ci := 5) (k := 16) (fs := df5) dL_law_8 nc5 (gT 866 (by decide +kernel) (by decide +kernel)) ?_
  intro S3 h3
  refine Wg.dup dL_law_11 ?_
  refine Wg.callC (c := c + 1) (n := n + 1) (c1 := 10) (n1 := 2859) dL_law_12 fX5_init (gT 868 (by decide +kernel) (by decide +kernel)) (by simp [Value.category]) (ct5 (k := 215) (d := d + 2) (va_up_self _ _ _)) ?_
  rintro S4 C4 N4 ⟨eN4, h4, g4, q4⟩
  obtain rfl : N4 = 226 := by omega
  refine Wg.astore_n (k := 2) dL_law_15 (by decide) ?_
  refine Wg.iconst (v := 1) dL_law_16 (by rfl) ?_
  refine Wg.newL (k := 1) dL_law_17 aL (by decide) (by decide +kernel) (by decide) ?_
  intro S5 h5
  refine Wg.astore_n (k := 3) dL_law_19 (by decide) ?_
  refine Wg.iconst (v := 0) dL_law_20 (by rfl) ?_
  refine Wg.istore (i := 4) dL_law_21 (by decide) ?_
  have a0 : S5 0 = S1 0 := by rw [h5 0 (by omega), h4 0 (by omega), h3 0 (by omega), h2 0 (by omega)]
  have a1 : S5 215 = S3 215 := by rw [h5 215 (by omega), h4 215 (by omega)]
  refine Wg.few (ls' := [(4, .int 0), (3, .ref (S5 226)), (2, .ref (S5 215)), (1, .ref (S5 0)), (0, .ref b)]) (by simp [lsto, Value.category, f3, a0, a1]) ?_
  refine Wg.stop (kk S5 _ (q2.keep (fun x _ hx => ⟨?_, ?_⟩)) (Sh5.keep q4 (fun x _ hx => ⟨?_, ?_⟩)) (va_up_self _ _ _))
  · rw [va_up_ne _ _ (by omega), g4 x (by omega), va_up_ne _ _ (by omega)]
  · rw [h5 x (by omega), h4 x (by omega), h3 x (by omega)]
  · exact va_up_ne _ _ (by omega)
  · exact h5 x (by omega)
