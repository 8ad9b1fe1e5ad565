/-! PUPIL, EXAMINER, TEXT, MODEL -/
theorem ct3 {B : BB} {d k : Nat} {S : Nat → Nat} {C : Nat → va_E} (hC0 : C k = .inr (3, df3)) : WY B (d + 1) MX3_init [.ref (S k)] 0 0 S C (k + 1) (Qy B 1 3 S C k (Sh3 B)) := by
  unfold WY
  rw [show lv_args 0 [Value.ref (S k)] = [(0, Value.ref (S k))] from rfl]
  refine Wg.aload_n (k := 0) (a := (S k)) dX3_init_0 (by simp) ?_
  refine Wg.obj dX3_init_1 (gT 48 (by decide +kernel) (by decide +kernel)) obI obC ?_
  refine Wg.aload_n (k := 0) (a := (S k)) dX3_init_4 (by simp) ?_
  refine Wg.iconst (v := 0) dX3_init_5 (by rfl) ?_
  refine Wg.putA (i := k) (fs := [.int 0, .int 0, .int 0, .int 0, .int 0, .int 0, .int 0, .int 0, .int 0]) dX3_init_6 fy3_9 ⟨rfl, by decide⟩ (by rfl) (by omega) (by simp (disch := omega) [va_up, Nat.add_assoc, hC0]) (by simp) (by rfl) (by rfl) ?_
  refine Wg.aload_n (k := 0) (a := (S k)) dX3_init_9 (by simp) ?_
  refine Wg.iconst (v := 0) dX3_init_10 (by rfl) ?_
  refine Wg.putA (i := k) (fs := [.int 0, .int 0, .int 0, .int 0, .int 0, .int 0, .int 0, .int 0, .int 0]) dX3_init_11 fy3_15 ⟨rfl, by decide⟩ (by rfl) (by omega) (by simp (disch := omega) [va_up, Nat.add_assoc, hC0]) (by simp) (by rfl) (by rfl) ?_
  refine Wg.aload_n (k := 0) (a := (S k)) dX3_init_14 (by simp) ?_
  refine Wg.iconst (v := 0) dX3_init_15 (by rfl) ?_
  refine Wg.putA (i := k) (fs := [.int 0, .int 0, .int 0, .int 0, .int 0, .int 0, .int 0, .int 0, .int 0]) dX3_init_16 fy3_18 ⟨rfl, by decide⟩ (by rfl) (by omega) (by simp (disch := omega) [va_up, Nat.add_assoc, hC0]) (by simp) (by rfl) (by rfl) ?_
  refine Wg.aload_n (k := 0) (a := (S k)) dX3_init_19 (by simp) ?_
  refine Wg.iconst (v := (-1)) dX3_init_20 (by rfl) ?_
  refine Wg.putA (i := k) (fs := [.int 0, .int 0, .int 0, .int 0, .int 0, .int 0, .int 0, .int 0, .int 0]) dX3_init_21 fy3_21 ⟨rfl, by decide⟩ (by rfl) (by omega) (by simp (disch := omega) [va_up, Nat.add_assoc, hC0]) (by simp) (by rfl) (by rfl) ?_
  refine Wg.aload_n (k := 0) (a := (S k)) dX3_init_24 (by simp) ?_
  refine Wg.iconst (v := (-1)) dX3_init_25 (by rfl) ?_
  refine Wg.putA (i := k) (fs := [.int 0, .int 0, .int 0, .int (-1), .int 0, .int 0, .int 0, .int 0, .int 0]) dX3_init_26 fy3_24 ⟨rfl, by decide⟩ (by rfl) (by omega) (by simp (disch := omega) [va_up, Nat.add_assoc, hC0]) (by simp) (by rfl) (by rfl) ?_
  refine Wg.aload_n (k := 0) (a := (S k)) dX3_init_29 (by simp) ?_
  refine Wg.iconst (v := 0) dX3_init_30 (by rfl) ?_
  refine Wg.putA (i := k) (fs := [.int 0, .int 0, .int 0, .int (-1), .int (-1), .int 0, .int 0, .int 0, .int 0]) dX3_init_31 fy3_27 ⟨rfl, by decide⟩ (by rfl) (by omega) (by simp (disch := omega) [va_up, Nat.add_assoc, hC0]) (by simp) (by rfl) (by rfl) ?_
  refine Wg.aload_n (k := 0) (a := (S k)) dX3_init_34 (by simp) ?_
  refine Wg.iconst (v := 0) dX3_init_35 (by rfl) ?_
  refine Wg.putA (i := k) (fs := [.int 0, .int 0, .int 0, .int (-1), .int (-1), .int 0, .int 0, .int 0, .int 0]) dX3_init_36 fy3_30 ⟨rfl, by decide⟩ (by rfl) (by omega) (by simp (disch := omega) [va_up, Nat.add_assoc, hC0]) (by simp) (by rfl) (by rfl) ?_
  refine Wg.aload_n (k := 0) (a := (S k)) dX3_init_39 (by simp) ?_
  refine Wg.iconst (v := 0) dX3_init_40 (by rfl) ?_
  refine Wg.putA (i := k) (fs := [.int 0, .int 0, .int 0, .int (-1), .int (-1), .int 0, .int 0, .int 0, .int 0]) dX3_init_41 fy3_33 ⟨rfl, by decide⟩ (by rfl) (by omega) (by simp (disch := omega) [va_up, Nat.add_assoc, hC0]) (by simp) (by rfl) (by rfl) ?_
  refine Wg.aload_n (k := 0) (a := (S k)) dX3_init_44 (by simp) ?_
  refine Wg.iconst (v := 0) dX3_init_45 (by rfl) ?_
  refine Wg.putA (i := k) (fs := [.int 0, .int 0, .int 0, .int (-1), .int (-1), .int 0, .int 0, .int 0, .int 0]) dX3_init_46 fy3_36 ⟨rfl, by decide⟩ (by rfl) (by omega) (by simp (disch := omega) [va_up, Nat.add_assoc, hC0]) (by simp) (by rfl) (by rfl) ?_
  exact Wg.stop ⟨dX3_init_49, rfl, rfl, by omega, fun x hx => rfl, fun x hx => by simp only [va_up]; repeat rw [if_neg (by omega)], by simp (disch := omega) [Sh3, va_up, Nat.add_assoc, hC0]⟩
theorem ct0 {B : BB} {d k : Nat} {S : Nat → Nat} {C : Nat → va_E} (hC0 : C k = .inr (0, df0)) : WY B (d + 1) MX0_init [.ref (S k)] 1 4 S C (k + 1) (Qy B 2 0 S C k (Sh0 B)) := by
  unfold WY
  rw [show lv_args 0 [Value.ref (S k)] = [(0, Value.ref (S k))] from rfl]
  refine Wg.aload_n (k := 0) (a := (S k)) dX0_init_0 (by simp) ?_
  refine Wg.obj dX0_init_1 (gT 91 (by decide +kernel) (by decide +kernel)) obI obC ?_
  refine Wg.aload_n (k := 0) (a := (S k)) dX0_init_4 (by simp) ?_
  refine Wg.iconst (v := 4) dX0_init_5 (by rfl) ?_
  refine Wg.newI (c := 0) (n := 0) (k := 4) dX0_init_6 aI (by decide) (by decide +kernel) (by decide) ?_
  intro S1 h1
  refine Wg.putA (i := k) (fs := [.null, .int 0, .int 0]) dX0_init_8 fy0_9 ⟨rfl, by decide⟩ (by first | rfl | simp (disch := omega) only [h1]) (by omega) (by simp (disch := omega) [va_up, Nat.add_assoc, hC0]) (by simp) (by rfl) (by rfl) ?_
  refine Wg.aload_n (k := 0) (a := (S k)) dX0_init_11 (by simp) ?_
  refine Wg.iconst (v := 0) dX0_init_12 (by rfl) ?_
  refine Wg.putA (i := k) (fs := [.ref (S1 (k + 1)), .int 0, .int 0]) dX0_init_13 fy0_15 ⟨rfl, by decide⟩ (by first | rfl | simp (disch := omega) only [h1]) (by omega) (by simp (disch := omega) [va_up, Nat.add_assoc, hC0]) (by simp) (by rfl) (by rfl) ?_
  refine Wg.aload_n (k := 0) (a := (S k)) dX0_init_16 (by simp) ?_
  refine Wg.iconst (v := 0) dX0_init_17 (by rfl) ?_
  refine Wg.putA (i := k) (fs := [.ref (S1 (k + 1)), .int 0, .int 0]) dX0_init_18 fy0_19 ⟨rfl, by decide⟩ (by first | rfl | simp (disch := omega) only [h1]) (by omega) (by simp (disch := omega) [va_up, Nat.add_assoc, hC0]) (by simp) (by rfl) (by rfl) ?_
  exact Wg.stop ⟨dX0_init_21, rfl, rfl, by omega, fun x hx => (by simp (disch := omega) only [h1]), fun x hx => by simp only [va_up]; repeat rw [if_neg (by omega)], by simp (disch := omega) [Sh0, va_up, Nat.add_assoc, hC0, h1]⟩
theorem ct2 {B : BB} {d k : Nat} {S : Nat → Nat} {C : Nat → va_E} (hC0 : C k = .inr (2, df2)) : WY B (d + 1) MX2_init [.ref (S k)] 4 240 S C (k + 1) (Qy B 5 2 S C k (Sh2 B)) := by
  unfold WY
  rw [show lv_args 0 [Value.ref (S k)] = [(0, Value.ref (S k))] from rfl]
  refine Wg.aload_n (k := 0) (a := (S k)) dX2_init_0 (by simp) ?_
  refine Wg.obj dX2_init_1 (gT 146 (by decide +kernel) (by decide +kernel)) obI obC ?_
  refine Wg.aload_n (k := 0) (a := (S k)) dX2_init_4 (by simp) ?_
  refine Wg.bipush (v := 60) dX2_init_5 (by rfl) ?_
  refine Wg.newI (c := 3) (n := 180) (k := 60) dX2_init_7 aI (by decide) (by decide +kernel) (by decide) ?_
  intro S1 h1
  refine Wg.putA (i := k) (fs := [.null, .int 0, .int 0, .int 0, .null, .null, .null]) dX2_init_9 fy2_9 ⟨rfl, by decide⟩ (by first | rfl | simp (disch := omega) only [h1]) (by omega) (by simp (disch := omega) [va_up, Nat.add_assoc, hC0]) (by simp) (by rfl) (by rfl) ?_
  refine Wg.aload_n (k := 0) (a := (S k)) dX2_init_12 (by simp) ?_
  refine Wg.iconst (v := 0) dX2_init_13 (by rfl) ?_
  refine Wg.putA (i := k) (fs := [.ref (S1 (k + 1)), .int 0, .int 0, .int 0, .null, .null, .null]) dX2_init_14 fy2_15 ⟨rfl, by decide⟩ (by first | rfl | simp (disch := omega) only [h1]) (by omega) (by simp (disch := omega) [va_up, Nat.add_assoc, hC0]) (by simp) (by rfl) (by rfl) ?_
  refine Wg.aload_n (k := 0) (a := (S k)) dX2_init_17 (by simp) ?_
  refine Wg.iconst (v := 0) dX2_init_18 (by rfl) ?_
  refine Wg.putA (i := k) (fs := [.ref (S1 (k + 1)), .int 0, .int 0, .int 0, .null, .null, .null]) dX2_init_19 fy2_19 ⟨rfl, by decide⟩ (by first | rfl | simp (disch := omega) only [h1]) (by omega) (by simp (disch := omega) [va_up, Nat.add_assoc, hC0]) (by simp) (by rfl) (by rfl) ?_
  refine Wg.aload_n (k := 0) (a := (S k)) dX2_init_22 (by simp) ?_
  refine Wg.iconst (v := 0) dX2_init_23 (by rfl) ?_
  refine Wg.putA (i := k) (fs := [.ref (S1 (k + 1)), .int 0, .int 0, .int 0, .null, .null, .null]) dX2_init_24 fy2_22 ⟨rfl, by decide⟩ (by first | rfl | simp (disch := omega) only [h1]) (by omega) (by simp (disch := omega) [va_up, Nat.add_assoc, hC0]) (by simp) (by rfl) (by rfl) ?_
  refine Wg.aload_n (k := 0) (a := (S k)) dX2_init_27 (by simp) ?_
  refine Wg.bipush (v := 60) dX2_init_28 (by rfl) ?_
  refine Wg.newI (c := 2) (n := 120) (k := 60) dX2_init_30 aI (by decide) (by decide +kernel) (by decide) ?_
  intro S2 h2
  refine Wg.putA (i := k) (fs := [.ref (S1 (k + 1)), .int 0, .int 0, .int 0, .null, .null, .null]) dX2_init_32 fy2_25 ⟨rfl, by decide⟩ (by first | rfl | simp (disch := omega) only [h2, h1]) (by omega) (by simp (disch := omega) [va_up, Nat.add_assoc, hC0]) (by simp) (by rfl) (by rfl) ?_
  refine Wg.aload_n (k := 0) (a := (S k)) dX2_init_35 (by simp) ?_
  refine Wg.bipush (v := 60) dX2_init_36 (by rfl) ?_
  refine Wg.newI (c := 1) (n := 60) (k := 60) dX2_init_38 aI (by decide) (by decide +kernel) (by decide) ?_
  intro S3 h3
  refine Wg.putA (i := k) (fs := [.ref (S1 (k + 1)), .int 0, .int 0, .int 0, .ref (S2 (k + 2)), .null, .null]) dX2_init_40 fy2_28 ⟨rfl, by decide⟩ (by first | rfl | simp (disch := omega) only [h3, h2, h1]) (by omega) (by simp (disch := omega) [va_up, Nat.add_assoc, hC0]) (by simp) (by rfl) (by rfl) ?_
  refine Wg.aload_n (k := 0) (a := (S k)) dX2_init_43 (by simp) ?_
  refine Wg.bipush (v := 60) dX2_init_44 (by rfl) ?_
  refine Wg.newI (c := 0) (n := 0) (k := 60) dX2_init_46 aI (by decide) (by decide +kernel) (by decide) ?_
  intro S4 h4
  refine Wg.putA (i := k) (fs := [.ref (S1 (k + 1)), .int 0, .int 0, .int 0, .ref (S2 (k + 2)), .ref (S3 (k + 3)), .null]) dX2_init_48 fy2_31 ⟨rfl, by decide⟩ (by first | rfl | simp (disch := omega) only [h4, h3, h2, h1]) (by omega) (by simp (disch := omega) [va_up, Nat.add_assoc, hC0]) (by simp) (by rfl) (by rfl) ?_
  exact Wg.stop ⟨dX2_init_51, rfl, rfl, by omega, fun x hx => (by simp (disch := omega) only [h4, h3, h2, h1]), fun x hx => by simp only [va_up]; repeat rw [if_neg (by omega)], by simp (disch := omega) [Sh2, va_up, Nat.add_assoc, hC0, h4, h3, h2, h1]⟩
