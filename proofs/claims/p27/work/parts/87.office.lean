/-! THE OFFICE -/
section KB
variable {B : BB} {d : Nat} {M : MD} {c n pc N : Nat} {ls : List (Nat × Value)} {st : List Value} {S : Nat → Nat} {C : Nat → va_E} {Q : EndQ}
theorem Wg.copyFA {i idx a : Nat} {f : Nat → Int32} (hd : decode M.2.1 pc = .ok (.invokestatic idx, 3)) (hl0 : Cond.methodLink M.1 idx arraycopyName ∈ gTbl) (hw0 : Cond.native arraycopyName ∈ gTbl ∧ Cond.static arraycopyName ∈ gTbl ∧ Cond.initialized "java/lang/System" ∈ gTbl) (ha : S i = a) (hi : i < N) (hC : C i = .inl (bc B 0, 4, .inl f)) (hrest : (st.map fun v => v.category).sum ≤ 8)
    (q : Wg B (d + 1) M c n (pc + 3) ls st S (va_up C i (.inl (bc B 0, 4, .inl (va_cpy fs4 f 0 0 4)))) N Q) : Wg B (d + 1) M c n pc ls (.int 4 :: .int 0 :: .ref a :: .int 0 :: .ref (bF B) :: st) S C N Q := by
  subst ha
  exact Wg.copyF hd hl0 hw0 hi hC hrest q
theorem Wg.callFA {i idx a : Nat} {x : Int32} {Qp : EndY} (hd : decode M.2.1 pc = .ok (.invokestatic idx, 3)) (hl0 : Cond.methodLink M.1 idx yJ7_fill_53178 ∈ gTbl) (hrest : (st.map fun v => v.category).sum ≤ 8) (ha : S i = a)
    (q : WY B d MJ7_fill_53178 [.ref (S i), .int x] 0 0 S C N Qp) (kk : ∀ S' C' N', Qp S' C' N' → Wg B (d + 1) M c n (pc + 3) ls st S' C' N' Q) : Wg B (d + 1) M c n pc ls (.int x :: .ref a :: st) S C N Q := by
  subst ha
  exact Wg.callF hd hl0 hrest q kk
end KB
set_option maxRecDepth 8000 in
theorem ct1 {B : BB} {d k : Nat} {S : Nat → Nat} {C : Nat → va_E} (hC0 : C k = .inr (1, df1)) : WY B (d + 2) MX1_init [.ref (S k)] 25 328 S C (k + 1) (Qy B 26 1 S C k (Sh1 B)) := by
  unfold WY
  rw [show lv_args 0 [Value.ref (S k)] = [(0, Value.ref (S k))] from rfl]
  refine Wg.aload_n (k := 0) (a := (S k)) dX1_init_0 (by simp) ?_
  refine Wg.obj dX1_init_1 (gT 31 (by decide +kernel) (by decide +kernel)) obI obC ?_
  refine Wg.aload_n (k := 0) (a := (S k)) dX1_init_4 (by simp) ?_
  refine Wg.iconst (v := 0) dX1_init_5 (by rfl) ?_
  refine Wg.putA (i := k) (fs := [.int 0, .int 0, .int 0, .int 0, .int 0, .null, .null, .null, .null, .null]) dX1_init_6 fy1_9 ⟨rfl, by decide⟩ (by rfl) (by omega) (by simp (disch := omega) [va_up, Nat.add_assoc, hC0]) (by simp) (by rfl) (by rfl) ?_
  refine Wg.aload_n (k := 0) (a := (S k)) dX1_init_9 (by simp) ?_
  refine Wg.iconst (v := 0) dX1_init_10 (by rfl) ?_
  refine Wg.putA (i := k) (fs := [.int 0, .int 0, .int 0, .int 0, .int 0, .null, .null, .null, .null, .null]) dX1_init_11 fy1_15 ⟨rfl, by decide⟩ (by rfl) (by omega) (by simp (disch := omega) [va_up, Nat.add_assoc, hC0]) (by simp) (by rfl) (by rfl) ?_
  refine Wg.aload_n (k := 0) (a := (S k)) dX1_init_14 (by simp) ?_
  refine Wg.iconst (v := 0) dX1_init_15 (by rfl) ?_
  refine Wg.putA (i := k) (fs := [.int 0, .int 0, .int 0, .int 0, .int 0, .null, .null, .null, .null, .null]) dX1_init_16 fy1_18 ⟨rfl, by decide⟩ (by rfl) (by omega) (by simp (disch := omega) [va_up, Nat.add_assoc, hC0]) (by simp) (by rfl) (by rfl) ?_
  refine Wg.aload_n (k := 0) (a := (S k)) dX1_init_19 (by simp) ?_
  refine Wg.iconst (v := 0) dX1_init_20 (by rfl) ?_
  refine Wg.putA (i := k) (fs := [.int 0, .int 0, .int 0, .int 0, .int 0, .null, .null, .null, .null, .null]) dX1_init_21 fy1_21 ⟨rfl, by decide⟩ (by rfl) (by omega) (by simp (disch := omega) [va_up, Nat.add_assoc, hC0]) (by simp) (by rfl) (by rfl) ?_
  refine Wg.aload_n (k := 0) (a := (S k)) dX1_init_24 (by simp) ?_
  refine Wg.iconst (v := 0) dX1_init_25 (by rfl) ?_
  refine Wg.putA (i := k) (fs := [.int 0, .int 0, .int 0, .int 0, .int 0, .null, .null, .null, .null, .null]) dX1_init_26 fy1_24 ⟨rfl, by decide⟩ (by rfl) (by omega) (by simp (disch := omega) [va_up, Nat.add_assoc, hC0]) (by simp) (by rfl) (by rfl) ?_
  refine Wg.aload_n (k := 0) (a := (S k)) dX1_init_29 (by simp) ?_
  refine Wg.getsF dX1_init_30 rfl ?_
  refine Wg.lenF dX1_init_33 ?_
  refine Wg.newI (c := 24) (n := 324) (k := 4) dX1_init_34 aI (by decide) (by decide +kernel) (by decide) ?_
  intro S1 h1
  refine Wg.putA (i := k) (fs := [.int 0, .int 0, .int 0, .int 0, .int 0, .null, .null, .null, .null, .null]) dX1_init_36 fy1_31 ⟨rfl, by decide⟩ (by first | rfl | simp (disch := omega) only [h1]) (by omega) (by simp (disch := omega) [va_up, Nat.add_assoc, hC0]) (by simp) (by rfl) (by rfl) ?_
  refine Wg.aload_n (k := 0) (a := (S k)) dX1_init_39 (by simp) ?_
  refine Wg.sipush (v := 160) dX1_init_40 (by rfl) ?_
  refine Wg.newI (c := 23) (n := 164) (k := 160) dX1_init_43 aI (by decide) (by decide +kernel) (by decide) ?_
  intro S2 h2
  refine Wg.putA (i := k) (fs := [.int 0, .int 0, .int 0, .int 0, .int 0, .ref (S1 (k + 1)), .null, .null, .null, .null]) dX1_init_45 fy1_34 ⟨rfl, by decide⟩ (by first | rfl | simp (disch := omega) only [h2, h1]) (by omega) (by simp (disch := omega) [va_up, Nat.add_assoc, hC0]) (by simp) (by rfl) (by rfl) ?_
  refine Wg.aload_n (k := 0) (a := (S k)) dX1_init_48 (by simp) ?_
  refine Wg.bipush (v := 12) dX1_init_49 (by rfl) ?_
  refine Wg.newq (c := 22) (n := 152) (k := 12) (t := 3) dX1_init_51 (Or.inl ⟨rfl, rfl⟩) (gT 34 (by decide +kernel) (by decide +kernel)) (by decide) (by decide +kernel) (by decide) ?_
  intro S3 h3
  refine Wg.putA (i := k) (fs := [.int 0, .int 0, .int 0, .int 0, .int 0, .ref (S1 (k + 1)), .ref (S2 (k + 2)), .null, .null, .null]) dX1_init_54 fy1_39 ⟨rfl, by decide⟩ (by first | rfl | simp (disch := omega) only [h3, h2, h1]) (by omega) (by simp (disch := omega) [va_up, Nat.add_assoc, hC0]) (by simp) (by rfl) (by rfl) ?_
  refine Wg.aload_n (k := 0) (a := (S k)) dX1_init_57 (by simp) ?_
  refine Wg.iconst (v := 4) dX1_init_58 (by rfl) ?_
  refine Wg.newq (c := 21) (n := 148) (k := 4) (t := 4) dX1_init_59 (Or.inr (Or.inl ⟨rfl, rfl⟩)) (gT 36 (by decide +kernel) (by decide +kernel)) (by decide) (by decide +kernel) (by decide) ?_
  intro S4 h4
  refine Wg.putA (i := k) (fs := [.int 0, .int 0, .int 0, .int 0, .int 0, .ref (S1 (k + 1)), .ref (S2 (k + 2)), .ref (S3 (k + 3)), .null, .null]) dX1_init_62 fy1_45 ⟨rfl, by decide⟩ (by first | rfl | simp (disch := omega) only [h4, h3, h2, h1]) (by omega) (by simp (disch := omega) [va_up, Nat.add_assoc, hC0]) (by simp) (by rfl) (by rfl) ?_
  refine Wg.aload_n (k := 0) (a := (S k)) dX1_init_65 (by simp) ?_
  refine Wg.bipush (v := 12) dX1_init_66 (by rfl) ?_
  refine Wg.newI (c := 20) (n := 136) (k := 12) dX1_init_68 aI (by decide) (by decide +kernel) (by decide) ?_
  intro S5 h5
  refine Wg.putA (i := k) (fs := [.int 0, .int 0, .int 0, .int 0, .int 0, .ref (S1 (k + 1)), .ref (S2 (k + 2)), .ref (S3 (k + 3)), .ref (S4 (k + 4)), .null]) dX1_init_70 fy1_49 ⟨rfl, by decide⟩ (by first | rfl | simp (disch := omega) only [h5, h4, h3, h2, h1]) (by omega) (by simp (disch := omega) [va_up, Nat.add_assoc, hC0]) (by simp) (by rfl) (by rfl) ?_
  refine Wg.getsF dX1_init_73 rfl ?_
  refine Wg.iconst (v := 0) dX1_init_76 (by rfl) ?_
  refine Wg.aload_n (k := 0) (a := (S k)) dX1_init_77 (by simp) ?_
  refine Wg.getA (i := k) (fs := [.int 0, .int 0, .int 0, .int 0, .int 0, .ref (S1 (k + 1)), .ref (S2 (k + 2)), .ref (S3 (k + 3)), .ref (S4 (k + 4)), .ref (S5 (k + 5))]) (v := .ref (S1 (k + 1))) dX1_init_78 fy1_31 (by first | rfl | simp (disch := omega) only [h5, h4, h3, h2, h1]) (by omega) (by simp (disch := omega) [va_up, Nat.add_assoc, hC0]) (by rfl) ?_
  refine Wg.iconst (v := 0) dX1_init_81 (by rfl) ?_
  refine Wg.aload_n (k := 0) (a := (S k)) dX1_init_82 (by simp) ?_
  refine Wg.getA (i := k) (fs := [.int 0, .int 0, .int 0, .int 0, .int 0, .ref (S1 (k + 1)), .ref (S2 (k + 2)), .ref (S3 (k + 3)), .ref (S4 (k + 4)), .ref (S5 (k + 5))]) (v := .ref (S1 (k + 1))) dX1_init_83 fy1_31 (by first | rfl | simp (disch := omega) only [h5, h4, h3, h2, h1]) (by omega) (by simp (disch := omega) [va_up, Nat.add_assoc, hC0]) (by rfl) ?_
  refine Wg.alenA (i := (k + 1)) (t := 0) (ty := .int) (a := (4, .inl (fun _ => 0))) (v := 4) dX1_init_86 (by first | rfl | simp (disch := omega) only [h5, h4, h3, h2, h1]) (by omega) (by simp (disch := omega) [va_up, Nat.add_assoc, hC0]) rfl (by rfl) ?_
  refine Wg.copyFA (i := k + 1) (f := fun _ => 0) dX1_init_87 (gT 38 (by decide +kernel) (by decide +kernel)) ⟨(gT 40 (by decide +kernel) (by decide +kernel)), (gT 39 (by decide +kernel) (by decide +kernel)), (gT 6 (by decide +kernel) (by decide +kernel))⟩ (by first | rfl | simp (disch := omega) only [h5, h4, h3, h2, h1]) (by omega) (by simp (disch := omega) [va_up, Nat.add_assoc, hC0]) (by simp) ?_
  refine Wg.aload_n (k := 0) (a := (S k)) dX1_init_90 (by simp) ?_
  refine Wg.getA (i := k) (fs := [.int 0, .int 0, .int 0, .int 0, .int 0, .ref (S1 (k + 1)), .ref (S2 (k + 2)), .ref (S3 (k + 3)), .ref (S4 (k + 4)), .ref (S5 (k + 5))]) (v := .ref (S2 (k + 2))) dX1_init_91 fy1_34 (by first | rfl | simp (disch := omega) only [h5, h4, h3, h2, h1]) (by omega) (by simp (disch := omega) [va_up, Nat.add_assoc, hC0]) (by rfl) ?_
  refine Wg.bipush (v := (-2)) dX1_init_94 (by rfl) ?_
  refine Wg.callFA (i := k + 2) dX1_init_96 (gT 41 (by decide +kernel) (by decide +kernel)) (by simp) (by first | rfl | simp (disch := omega) only [h5, h4, h3, h2, h1]) (ctF (i := k + 2) (n := 160) (f := fun _ => 0) (by omega) (by decide) (by simp (disch := omega) [va_up, Nat.add_assoc, hC0])) ?_
  rintro S6 C6 N6 ⟨rfl, rfl, g6, f6, e6, x6⟩
  have cK : C6 k = .inr (1, [.int 0, .int 0, .int 0, .int 0, .int 0, .ref (S1 (k + 1)), .ref (S2 (k + 2)), .ref (S3 (k + 3)), .ref (S4 (k + 4)), .ref (S6 (k + 5))]) := (g6 k (by omega)).trans (by simp (disch := omega) [va_up, Nat.add_assoc, hC0])
  have c1 : C6 (k + 1) = .inl (bc B 0, 4, .inl (va_cpy fs4 (fun _ => 0) 0 0 4)) := (g6 (k + 1) (by omega)).trans (by simp (disch := omega) [va_up, Nat.add_assoc, hC0])
  have c3 : C6 (k + 3) = .inl (bc B 3, 12, .inr (.inr (.inr (.inr (fun _ => none))))) := (g6 (k + 3) (by omega)).trans (by simp (disch := omega) [va_up, Nat.add_assoc, hC0])
  have c4 : C6 (k + 4) = .inl (bc B 4, 4, .inr (.inr (.inr (.inr (fun _ => none))))) := (g6 (k + 4) (by omega)).trans (by simp (disch := omega) [va_up, Nat.add_assoc, hC0])
  have c5 : C6 (k + 5) = .inl (bc B 0, 12, .inl (fun _ => 0)) := (g6 (k + 5) (by omega)).trans (by simp (disch := omega) [va_up, Nat.add_assoc, hC0])
  have cL : ∀ x, x < k → C6 x = C x := fun x hx => (g6 x (by omega)).trans (by simp only [va_up]; repeat rw [if_neg (by omega)])
  have a0 : S6 k = S k := (by first | rfl | simp (disch := omega) only [h5, h4, h3, h2, h1])
  have a1 : S6 (k + 1) = S1 (k + 1) := (by first | rfl | simp (disch := omega) only [h5, h4, h3, h2, h1])
  have a2 : S6 (k + 2) = S2 (k + 2) := (by first | rfl | simp (disch := omega) only [h5, h4, h3, h2, h1])
  have a3 : S6 (k + 3) = S3 (k + 3) := (by first | rfl | simp (disch := omega) only [h5, h4, h3, h2, h1])
  have a4 : S6 (k + 4) = S4 (k + 4) := (by first | rfl | simp (disch := omega) only [h5, h4, h3, h2, h1])
  have aS : ∀ x, x < k + 1 → S6 x = S x := fun x hx => (by simp (disch := omega) only [h5, h4, h3, h2, h1])
  rw [← a1, ← a2, ← a3, ← a4] at cK
  refine Wg.iconst (v := 0) dX1_init_99 (by rfl) ?_
  refine Wg.istore_n (k := 1) dX1_init_100 (by decide) ?_
  refine Wg.few (ls' := [(1, .int (nI 0)), (0, .ref (S k))]) (by simp [lsto, Value.category, n0I]) ?_
  refine lpP (c := 8) (n := 28) (C0 := C6) (S0 := S6) (b := S6 (k + 3)) a0 cK rfl rfl ?_ 12 0 S6 C6 (fun _ => none) rfl (fun _ _ => rfl) (fun _ _ _ => rfl) c3 (fun y hy => absurd hy (by omega)) (fun y hy => absurd hy (by omega))
  intro S7 C7 f7 hS7 hC7 hR7 hf7 hs7
  refine Wg.iconst (v := 0) dX1_init_129 (by rfl) ?_
  refine Wg.istore_n (k := 1) dX1_init_130 (by decide) ?_
  refine Wg.few (ls' := [(1, .int (nI 0)), (0, .ref (S k))]) (by simp [lsto, Value.category, n0I]) ?_
  refine lpE (c := 0) (n := 0) (C0 := C7) (S0 := S7) (b := S6 (k + 4)) ((hS7 k (by omega)).trans a0) ((hC7 k (by omega) (by omega)).trans cK) rfl (hS7 _ (by omega)) ?_ 4 0 S7 C7 (fun _ => none) rfl (fun _ _ => rfl) (fun _ _ _ => rfl) ((hC7 _ (by omega) (by omega)).trans c4) (fun y hy => absurd hy (by omega)) (fun y hy => absurd hy (by omega))
  intro S8 C8 f8 hS8 hC8 hR8 hf8 hs8
  have bS : ∀ x, x < k + 6 → S8 x = S6 x := fun x hx => (hS8 x (by omega)).trans (hS7 x hx)
  have bC : ∀ x, x < k + 6 → x ≠ k + 3 → x ≠ k + 4 → C8 x = C6 x := fun x hx h3 h4 => (hC8 x (by omega) h4).trans (hC7 x hx h3)
  refine Wg.stop ⟨dX1_init_159, rfl, rfl, by omega, fun x hx => (bS x (by omega)).trans (aS x hx), fun x hx => (bC x (by omega) (by omega) (by omega)).trans (cL x hx), ?_, ⟨_, (bC _ (by omega) (by omega) (by omega)).trans c1, fun y hy => ?_⟩, ⟨f6, (bC _ (by omega) (by omega) (by omega)).trans e6, x6⟩, ⟨f7, (hC8 _ (by omega) (by omega)).trans hR7, fun y hy => ?_⟩, ⟨f8, hR8, hf8⟩, (bC _ (by omega) (by omega) (by omega)).trans c5, fun y hy => (hs7 y hy).keep (fun x h1 h2 => ⟨hC8 x (by omega) (by omega), hS8 x (by omega)⟩), hs8⟩
  · rw [bC k (by omega) (by omega) (by omega), cK, bS (k + 1) (by omega), bS (k + 2) (by omega), bS (k + 3) (by omega), bS (k + 4) (by omega), bS (k + 5) (by omega)]
  · simp only [va_cpy]
    rw [if_pos (by omega), show 0 + (y - 0) = y by omega]
  · rw [hf7 y hy, hS8 _ (by omega)]
