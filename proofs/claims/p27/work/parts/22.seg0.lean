/-! SEGMENTS: rows from a method's entry, and from each loop's head, to the next ones (laid by wip/p27/gen/gen.py) -/
set_option maxHeartbeats 4000000 in
set_option maxRecDepth 20000 in
theorem sgX0_tests {g : GG} {d : Nat} {c n : Nat} {m : PM} {Q : Ou → PM → Nat → Nat → Prop} {r j0 : Nat} (h : Wq g d MX0_tests c n 4 [some (pO 5 r j0), some (pI 0), some (pI 0)] [] m Q) : Wq g d MX0_tests c n 0 [some (pO 5 r j0)] [] m Q := by
  refine Wq.few (ls' := [some (pO 5 r j0), none, none]) ⟨rfl, trivial⟩ ?_
  refine Wq.iconst (v := 0) dX0_tests_0 (by decide) ?_
  refine Wq.istore_n (ls2 := [some (pO 5 r j0), some (pI 0), none]) dX0_tests_1 (by decide) rfl ?_
  refine Wq.iconst (v := 0) dX0_tests_2 (by decide) ?_
  refine Wq.istore_n (ls2 := [some (pO 5 r j0), some (pI 0), some (pI 0)]) dX0_tests_3 (by decide) rfl ?_
  exact h
set_option maxHeartbeats 4000000 in
set_option maxRecDepth 20000 in
theorem sgX0_tests_4 {g : GG} {d : Nat} {c n : Nat} {m : PM} {Q : Ou → PM → Nat → Nat → Prop} {j0 : Nat} {r : Nat} {x1 : Int32} {x2 : Int32} (h : ((4 ≤ x2 → Q (.inl (some (pI x1))) m c n) ∧ (¬ 4 ≤ x2 → (vp_in x2 4 ∧ Wq g d MX0_tests c n 4 [some (pO 5 r j0), some (pI (x1 + (m.1 r 6 j0 (ix x2)))), some (pI (x2 + 1))] [] m Q)))) : Wq g d MX0_tests c n 4 [some (pO 5 r j0), some (pI x1), some (pI x2)] [] m Q := by
  refine Wq.iload_n (x := x2) dX0_tests_4 rfl ?_
  refine Wq.aload_n (t := 5) (r := r) (j := j0) dX0_tests_5 rfl ?_
  refine Wq.getf (v := pO 6 r j0) dX0_tests_6 fl_X0_9 ⟨rfl, rfl, by decide⟩ rfl ?_
  refine Wq.alen (v := 4) dX0_tests_9 rfl (by decide) rfl ?_
  refine Wq.icmpge (tgt := 28) dX0_tests_10 (by decide) (fun q1 => ?_) (fun q1 => ?_)
  · replace h := h.1 q1
    refine Wq.iload_n (x := x1) dX0_tests_28 rfl ?_
    exact Wq.iret dX0_tests_29 (⟨_, rfl, rfl⟩) h
  · replace h := h.2 q1
    refine Wq.iload_n (x := x1) dX0_tests_13 rfl ?_
    refine Wq.aload_n (t := 5) (r := r) (j := j0) dX0_tests_14 rfl ?_
    refine Wq.getf (v := pO 6 r j0) dX0_tests_15 fl_X0_9 ⟨rfl, rfl, by decide⟩ rfl ?_
    refine Wq.iload_n (x := x2) dX0_tests_18 rfl ?_
    refine Wq.iald dX0_tests_19 rfl h.1 ?_
    replace h := h.2
    refine Wq.iadd dX0_tests_20 ?_
    refine Wq.istore_n (ls2 := [some (pO 5 r j0), some (pI (x1 + (m.1 r 6 j0 (ix x2)))), some (pI x2)]) dX0_tests_21 (by decide) rfl ?_
    refine Wq.iinc (x := x2) (ls2 := [some (pO 5 r j0), some (pI (x1 + (m.1 r 6 j0 (ix x2)))), some (pI (x2 + 1))]) dX0_tests_22 rfl (by decide) rfl ?_
    refine Wq.goto (tgt := 4) dX0_tests_25 (by decide) ?_
    exact h
set_option maxHeartbeats 4000000 in
set_option maxRecDepth 20000 in
theorem sgX0_leastUsedRouteBut {g : GG} {d : Nat} {c n : Nat} {m : PM} {Q : Ou → PM → Nat → Nat → Prop} {r j0 : Nat} {x1 : Int32} (h : ((¬ x1 = 0 → Wq g d MX0_leastUsedRouteBut c n 14 [some (pO 5 r j0), some (pI x1), some (pI 0), some (pI (0 + 1))] [] m Q) ∧ (x1 = 0 → Wq g d MX0_leastUsedRouteBut c n 14 [some (pO 5 r j0), some (pI x1), some (pI 1), some (pI (1 + 1))] [] m Q))) : Wq g d MX0_leastUsedRouteBut c n 0 [some (pO 5 r j0), some (pI x1)] [] m Q := by
  refine Wq.few (ls' := [some (pO 5 r j0), some (pI x1), none, none]) ⟨rfl, ⟨rfl, trivial⟩⟩ ?_
  refine Wq.iload_n (x := x1) dX0_leastUsedRouteBut_0 rfl ?_
  refine Wq.ifne (tgt := 8) dX0_leastUsedRouteBut_1 (by decide) (fun q1 => ?_) (fun q1 => ?_)
  · replace h := h.1 q1
    refine Wq.iconst (v := 0) dX0_leastUsedRouteBut_8 (by decide) ?_
    refine Wq.istore_n (ls2 := [some (pO 5 r j0), some (pI x1), some (pI 0), none]) dX0_leastUsedRouteBut_9 (by decide) rfl ?_
    refine Wq.iload_n (x := 0) dX0_leastUsedRouteBut_10 rfl ?_
    refine Wq.iconst (v := 1) dX0_leastUsedRouteBut_11 (by decide) ?_
    refine Wq.iadd dX0_leastUsedRouteBut_12 ?_
    refine Wq.istore_n (ls2 := [some (pO 5 r j0), some (pI x1), some (pI 0), some (pI (0 + 1))]) dX0_leastUsedRouteBut_13 (by decide) rfl ?_
    exact h
  · replace h := h.2 q1
    refine Wq.iconst (v := 1) dX0_leastUsedRouteBut_4 (by decide) ?_
    refine Wq.goto (tgt := 9) dX0_leastUsedRouteBut_5 (by decide) ?_
    refine Wq.istore_n (ls2 := [some (pO 5 r j0), some (pI x1), some (pI 1), none]) dX0_leastUsedRouteBut_9 (by decide) rfl ?_
    refine Wq.iload_n (x := 1) dX0_leastUsedRouteBut_10 rfl ?_
    refine Wq.iconst (v := 1) dX0_leastUsedRouteBut_11 (by decide) ?_
    refine Wq.iadd dX0_leastUsedRouteBut_12 ?_
    refine Wq.istore_n (ls2 := [some (pO 5 r j0), some (pI x1), some (pI 1), some (pI (1 + 1))]) dX0_leastUsedRouteBut_13 (by decide) rfl ?_
    exact h
set_option maxHeartbeats 4000000 in
set_option maxRecDepth 20000 in
theorem sgX0_leastUsedRouteBut_14 {g : GG} {d : Nat} {c n : Nat} {m : PM} {Q : Ou → PM → Nat → Nat → Prop} {j0 : Nat} {r : Nat} {x1 : Int32} {x2 : Int32} {x3 : Int32} (h : ((4 ≤ x3 → Q (.inl (some (pI x2))) m c n) ∧ (¬ 4 ≤ x3 → ((x3 = x1 → Wq g d MX0_leastUsedRouteBut c n 14 [some (pO 5 r j0), some (pI x1), some (pI x2), some (pI (x3 + 1))] [] m Q) ∧ (¬ x3 = x1 → (vp_in x3 4 ∧ (vp_in x2 4 ∧ (((m.1 r 6 j0 (ix x2)) ≤ (m.1 r 6 j0 (ix x3)) → Wq g d MX0_leastUsedRouteBut c n 14 [some (pO 5 r j0), some (pI x1), some (pI x2), some (pI (x3 + 1))] [] m Q) ∧ (¬ (m.1 r 6 j0 (ix x2)) ≤ (m.1 r 6 j0 (ix x3)) → Wq g d MX0_leastUsedRouteBut c n 14 [some (pO 5 r j0), some (pI x1), some (pI x3), some (pI (x3 + 1))] [] m Q))))))))) : Wq g d MX0_leastUsedRouteBut c n 14 [some (pO 5 r j0), some (pI x1), some (pI x2), some (pI x3)] [] m Q := by
  refine Wq.iload_n (x := x3) dX0_leastUsedRouteBut_14 rfl ?_
  refine Wq.aload_n (t := 5) (r := r) (j := j0) dX0_leastUsedRouteBut_15 rfl ?_
  refine Wq.getf (v := pO 6 r j0) dX0_leastUsedRouteBut_16 fl_X0_9 ⟨rfl, rfl, by decide⟩ rfl ?_
  refine Wq.alen (v := 4) dX0_leastUsedRouteBut_19 rfl (by decide) rfl ?_
  refine Wq.icmpge (tgt := 51) dX0_leastUsedRouteBut_20 (by decide) (fun q1 => ?_) (fun q1 => ?_)
  · replace h := h.1 q1
    refine Wq.iload_n (x := x2) dX0_leastUsedRouteBut_51 rfl ?_
    exact Wq.iret dX0_leastUsedRouteBut_52 (⟨_, rfl, rfl⟩) h
  · replace h := h.2 q1
    refine Wq.iload_n (x := x3) dX0_leastUsedRouteBut_23 rfl ?_
    refine Wq.iload_n (x := x1) dX0_leastUsedRouteBut_24 rfl ?_
    refine Wq.icmpeq (tgt := 45) dX0_leastUsedRouteBut_25 (by decide) (fun q2 => ?_) (fun q2 => ?_)
    · replace h := h.1 q2
      refine Wq.iinc (x := x3) (ls2 := [some (pO 5 r j0), some (pI x1), some (pI x2), some (pI (x3 + 1))]) dX0_leastUsedRouteBut_45 rfl (by decide) rfl ?_
      refine Wq.goto (tgt := 14) dX0_leastUsedRouteBut_48 (by decide) ?_
      exact h
    · replace h := h.2 q2
      refine Wq.aload_n (t := 5) (r := r) (j := j0) dX0_leastUsedRouteBut_28 rfl ?_
      refine Wq.getf (v := pO 6 r j0) dX0_leastUsedRouteBut_29 fl_X0_9 ⟨rfl, rfl, by decide⟩ rfl ?_
      refine Wq.iload_n (x := x3) dX0_leastUsedRouteBut_32 rfl ?_
      refine Wq.iald dX0_leastUsedRouteBut_33 rfl h.1 ?_
      replace h := h.2
      refine Wq.aload_n (t := 5) (r := r) (j := j0) dX0_leastUsedRouteBut_34 rfl ?_
      refine Wq.getf (v := pO 6 r j0) dX0_leastUsedRouteBut_35 fl_X0_9 ⟨rfl, rfl, by decide⟩ rfl ?_
      refine Wq.iload_n (x := x2) dX0_leastUsedRouteBut_38 rfl ?_
      refine Wq.iald dX0_leastUsedRouteBut_39 rfl h.1 ?_
      replace h := h.2
      refine Wq.icmpge (tgt := 45) dX0_leastUsedRouteBut_40 (by decide) (fun q3 => ?_) (fun q3 => ?_)
      · replace h := h.1 q3
        refine Wq.iinc (x := x3) (ls2 := [some (pO 5 r j0), some (pI x1), some (pI x2), some (pI (x3 + 1))]) dX0_leastUsedRouteBut_45 rfl (by decide) rfl ?_
        refine Wq.goto (tgt := 14) dX0_leastUsedRouteBut_48 (by decide) ?_
        exact h
      · replace h := h.2 q3
        refine Wq.iload_n (x := x3) dX0_leastUsedRouteBut_43 rfl ?_
        refine Wq.istore_n (ls2 := [some (pO 5 r j0), some (pI x1), some (pI x3), some (pI x3)]) dX0_leastUsedRouteBut_44 (by decide) rfl ?_
        refine Wq.iinc (x := x3) (ls2 := [some (pO 5 r j0), some (pI x1), some (pI x3), some (pI (x3 + 1))]) dX0_leastUsedRouteBut_45 rfl (by decide) rfl ?_
        refine Wq.goto (tgt := 14) dX0_leastUsedRouteBut_48 (by decide) ?_
        exact h
set_option maxHeartbeats 4000000 in
set_option maxRecDepth 20000 in
theorem sgX1_cellOf {g : GG} {d : Nat} {c n : Nat} {m : PM} {Q : Ou → PM → Nat → Nat → Prop} {r : Nat} {x1 : Int32} (h : Wq g d MX1_cellOf c n 2 [some (pO 0 r 0), some (pI x1), some (pI 0)] [] m Q) : Wq g d MX1_cellOf c n 0 [some (pO 0 r 0), some (pI x1)] [] m Q := by
  refine Wq.few (ls' := [some (pO 0 r 0), some (pI x1), none]) ⟨rfl, ⟨rfl, trivial⟩⟩ ?_
  refine Wq.iconst (v := 0) dX1_cellOf_0 (by decide) ?_
  refine Wq.istore_n (ls2 := [some (pO 0 r 0), some (pI x1), some (pI 0)]) dX1_cellOf_1 (by decide) rfl ?_
  exact h
set_option maxHeartbeats 4000000 in
set_option maxRecDepth 20000 in
theorem sgX1_cellOf_2 {g : GG} {d : Nat} {c n : Nat} {m : PM} {Q : Ou → PM → Nat → Nat → Prop} {r : Nat} {x1 : Int32} {x2 : Int32} (h : ((160 ≤ x2 → Q (.inl (some (pI (-1)))) m c n) ∧ (¬ 160 ≤ x2 → (vp_in x2 160 ∧ ((¬ (m.1 r 2 0 (ix x2)) = x1 → Wq g d MX1_cellOf c n 2 [some (pO 0 r 0), some (pI x1), some (pI (x2 + 1))] [] m Q) ∧ ((m.1 r 2 0 (ix x2)) = x1 → Q (.inl (some (pI x2))) m c n)))))) : Wq g d MX1_cellOf c n 2 [some (pO 0 r 0), some (pI x1), some (pI x2)] [] m Q := by
  refine Wq.iload_n (x := x2) dX1_cellOf_2 rfl ?_
  refine Wq.aload_n (t := 0) (r := r) (j := 0) dX1_cellOf_3 rfl ?_
  refine Wq.getf (v := pO 2 r 0) dX1_cellOf_4 fl_X1_34 ⟨rfl, rfl, by decide⟩ rfl ?_
  refine Wq.alen (v := 160) dX1_cellOf_7 rfl (by decide) rfl ?_
  refine Wq.icmpge (tgt := 29) dX1_cellOf_8 (by decide) (fun q1 => ?_) (fun q1 => ?_)
  · replace h := h.1 q1
    refine Wq.iconst (v := (-1)) dX1_cellOf_29 (by decide) ?_
    exact Wq.iret dX1_cellOf_30 (⟨_, rfl, rfl⟩) h
  · replace h := h.2 q1
    refine Wq.aload_n (t := 0) (r := r) (j := 0) dX1_cellOf_11 rfl ?_
    refine Wq.getf (v := pO 2 r 0) dX1_cellOf_12 fl_X1_34 ⟨rfl, rfl, by decide⟩ rfl ?_
    refine Wq.iload_n (x := x2) dX1_cellOf_15 rfl ?_
    refine Wq.iald dX1_cellOf_16 rfl h.1 ?_
    replace h := h.2
    refine Wq.iload_n (x := x1) dX1_cellOf_17 rfl ?_
    refine Wq.icmpne (tgt := 23) dX1_cellOf_18 (by decide) (fun q2 => ?_) (fun q2 => ?_)
    · replace h := h.1 q2
      refine Wq.iinc (x := x2) (ls2 := [some (pO 0 r 0), some (pI x1), some (pI (x2 + 1))]) dX1_cellOf_23 rfl (by decide) rfl ?_
      refine Wq.goto (tgt := 2) dX1_cellOf_26 (by decide) ?_
      exact h
    · replace h := h.2 q2
      refine Wq.iload_n (x := x2) dX1_cellOf_21 rfl ?_
      exact Wq.iret dX1_cellOf_22 (⟨_, rfl, rfl⟩) h
set_option maxHeartbeats 4000000 in
set_option maxRecDepth 20000 in
theorem sgX1_cellsOfExaminer {g : GG} {d : Nat} {c n : Nat} {m : PM} {Q : Ou → PM → Nat → Nat → Prop} {r : Nat} {x1 : Int32} {x2 : Int32} (h : Wq g d MX1_cellsOfExaminer c n 5 [some (pO 0 r 0), none, some (pI x2), some (pI 0), some (pI x1)] [] m Q) : Wq g d MX1_cellsOfExaminer c n 0 [some (pO 0 r 0), some (pI x1), some (pI x2)] [] m Q := by
  refine Wq.few (ls' := [some (pO 0 r 0), some (pI x1), some (pI x2), none, none]) ⟨rfl, ⟨rfl, ⟨rfl, trivial⟩⟩⟩ ?_
  refine Wq.iconst (v := 0) dX1_cellsOfExaminer_0 (by decide) ?_
  refine Wq.istore_n (ls2 := [some (pO 0 r 0), some (pI x1), some (pI x2), some (pI 0), none]) dX1_cellsOfExaminer_1 (by decide) rfl ?_
  refine Wq.iload_n (x := x1) dX1_cellsOfExaminer_2 rfl ?_
  refine Wq.istore (ls2 := [some (pO 0 r 0), some (pI x1), some (pI x2), some (pI 0), some (pI x1)]) dX1_cellsOfExaminer_3 (by decide) rfl ?_
  refine Wq.few (ls' := [some (pO 0 r 0), none, some (pI x2), some (pI 0), some (pI x1)]) ⟨rfl, ⟨rfl, ⟨rfl, ⟨rfl, trivial⟩⟩⟩⟩ ?_
  exact h
set_option maxHeartbeats 4000000 in
set_option maxRecDepth 20000 in
theorem sgX1_cellsOfExaminer_5 {g : GG} {d : Nat} {c n : Nat} {m : PM} {Q : Ou → PM → Nat → Nat → Prop} {r : Nat} {x2 : Int32} {x3 : Int32} {x4 : Int32} (h : ((160 ≤ x4 → Q (.inl (some (pI x3))) m c n) ∧ (¬ 160 ≤ x4 → (vp_in x4 160 ∧ ((¬ (m.1 r 2 0 (ix x4)) = x2 → Wq g d MX1_cellsOfExaminer c n 5 [some (pO 0 r 0), none, some (pI x2), some (pI x3), some (pI (x4 + 4))] [] m Q) ∧ ((m.1 r 2 0 (ix x4)) = x2 → Wq g d MX1_cellsOfExaminer c n 5 [some (pO 0 r 0), none, some (pI x2), some (pI (x3 + 1)), some (pI (x4 + 4))] [] m Q)))))) : Wq g d MX1_cellsOfExaminer c n 5 [some (pO 0 r 0), none, some (pI x2), some (pI x3), some (pI x4)] [] m Q := by
  refine Wq.iload (x := x4) dX1_cellsOfExaminer_5 rfl ?_
  refine Wq.aload_n (t := 0) (r := r) (j := 0) dX1_cellsOfExaminer_7 rfl ?_
  refine Wq.getf (v := pO 2 r 0) dX1_cellsOfExaminer_8 fl_X1_34 ⟨rfl, rfl, by decide⟩ rfl ?_
  refine Wq.alen (v := 160) dX1_cellsOfExaminer_11 rfl (by decide) rfl ?_
  refine Wq.icmpge (tgt := 35) dX1_cellsOfExaminer_12 (by decide) (fun q1 => ?_) (fun q1 => ?_)
  · replace h := h.1 q1
    refine Wq.iload_n (x := x3) dX1_cellsOfExaminer_35 rfl ?_
    exact Wq.iret dX1_cellsOfExaminer_36 (⟨_, rfl, rfl⟩) h
  · replace h := h.2 q1
    refine Wq.aload_n (t := 0) (r := r) (j := 0) dX1_cellsOfExaminer_15 rfl ?_
    refine Wq.getf (v := pO 2 r 0) dX1_cellsOfExaminer_16 fl_X1_34 ⟨rfl, rfl, by decide⟩ rfl ?_
    refine Wq.iload (x := x4) dX1_cellsOfExaminer_19 rfl ?_
    refine Wq.iald dX1_cellsOfExaminer_21 rfl h.1 ?_
    replace h := h.2
    refine Wq.iload_n (x := x2) dX1_cellsOfExaminer_22 rfl ?_
    refine Wq.icmpne (tgt := 29) dX1_cellsOfExaminer_23 (by decide) (fun q2 => ?_) (fun q2 => ?_)
    · replace h := h.1 q2
      refine Wq.iinc (x := x4) (ls2 := [some (pO 0 r 0), none, some (pI x2), some (pI x3), some (pI (x4 + 4))]) dX1_cellsOfExaminer_29 rfl (by decide) rfl ?_
      refine Wq.goto (tgt := 5) dX1_cellsOfExaminer_32 (by decide) ?_
      exact h
    · replace h := h.2 q2
      refine Wq.iinc (x := x3) (ls2 := [some (pO 0 r 0), none, some (pI x2), some (pI (x3 + 1)), some (pI x4)]) dX1_cellsOfExaminer_26 rfl (by decide) rfl ?_
      refine Wq.iinc (x := x4) (ls2 := [some (pO 0 r 0), none, some (pI x2), some (pI (x3 + 1)), some (pI (x4 + 4))]) dX1_cellsOfExaminer_29 rfl (by decide) rfl ?_
      refine Wq.goto (tgt := 5) dX1_cellsOfExaminer_32 (by decide) ?_
      exact h
set_option maxHeartbeats 4000000 in
set_option maxRecDepth 20000 in
theorem sgX1_pupilsWho {g : GG} {d : Nat} {c n : Nat} {m : PM} {Q : Ou → PM → Nat → Nat → Prop} {r : Nat} {x1 : Int32} (h : Wq g d MX1_pupilsWho c n 4 [some (pO 0 r 0), some (pI x1), some (pI 0), some (pI 0)] [] m Q) : Wq g d MX1_pupilsWho c n 0 [some (pO 0 r 0), some (pI x1)] [] m Q := by
  refine Wq.few (ls' := [some (pO 0 r 0), some (pI x1), none, none]) ⟨rfl, ⟨rfl, trivial⟩⟩ ?_
  refine Wq.iconst (v := 0) dX1_pupilsWho_0 (by decide) ?_
  refine Wq.istore_n (ls2 := [some (pO 0 r 0), some (pI x1), some (pI 0), none]) dX1_pupilsWho_1 (by decide) rfl ?_
  refine Wq.iconst (v := 0) dX1_pupilsWho_2 (by decide) ?_
  refine Wq.istore_n (ls2 := [some (pO 0 r 0), some (pI x1), some (pI 0), some (pI 0)]) dX1_pupilsWho_3 (by decide) rfl ?_
  exact h
set_option maxHeartbeats 4000000 in
set_option maxRecDepth 20000 in
theorem sgX1_pupilsWho_4 {g : GG} {d : Nat} {c n : Nat} {m : PM} {Q : Ou → PM → Nat → Nat → Prop} {r : Nat} {x1 : Int32} {x2 : Int32} {x3 : Int32} (h : (((m.1 r 0 0 2) ≤ x3 → Q (.inl (some (pI x2))) m c n) ∧ (¬ (m.1 r 0 0 2) ≤ x3 → (vp_in x3 12 ∧ ((¬ (m.1 r 4 (ix x3) 0) = x1 → Wq g d MX1_pupilsWho c n 4 [some (pO 0 r 0), some (pI x1), some (pI x2), some (pI (x3 + 1))] [] m Q) ∧ ((m.1 r 4 (ix x3) 0) = x1 → Wq g d MX1_pupilsWho c n 4 [some (pO 0 r 0), some (pI x1), some (pI (x2 + 1)), some (pI (x3 + 1))] [] m Q)))))) : Wq g d MX1_pupilsWho c n 4 [some (pO 0 r 0), some (pI x1), some (pI x2), some (pI x3)] [] m Q := by
  refine Wq.iload_n (x := x3) dX1_pupilsWho_4 rfl ?_
  refine Wq.aload_n (t := 0) (r := r) (j := 0) dX1_pupilsWho_5 rfl ?_
  refine Wq.getf (v := pI (m.1 r 0 0 2)) dX1_pupilsWho_6 fl_X1_18 ⟨rfl, rfl, by decide⟩ rfl ?_
  refine Wq.icmpge (tgt := 34) dX1_pupilsWho_9 (by decide) (fun q1 => ?_) (fun q1 => ?_)
  · replace h := h.1 q1
    refine Wq.iload_n (x := x2) dX1_pupilsWho_34 rfl ?_
    exact Wq.iret dX1_pupilsWho_35 (⟨_, rfl, rfl⟩) h
  · replace h := h.2 q1
    refine Wq.aload_n (t := 0) (r := r) (j := 0) dX1_pupilsWho_12 rfl ?_
    refine Wq.getf (v := pO 7 r 0) dX1_pupilsWho_13 fl_X1_39 ⟨rfl, rfl, by decide⟩ rfl ?_
    refine Wq.iload_n (x := x3) dX1_pupilsWho_16 rfl ?_
    refine Wq.aaldP dX1_pupilsWho_17 h.1 ?_
    replace h := h.2
    refine Wq.getf (v := pI (m.1 r 4 (ix x3) 0)) dX1_pupilsWho_18 fl_X1_83 ⟨rfl, rfl, by decide⟩ rfl ?_
    refine Wq.iload_n (x := x1) dX1_pupilsWho_21 rfl ?_
    refine Wq.icmpne (tgt := 28) dX1_pupilsWho_22 (by decide) (fun q2 => ?_) (fun q2 => ?_)
    · replace h := h.1 q2
      refine Wq.iinc (x := x3) (ls2 := [some (pO 0 r 0), some (pI x1), some (pI x2), some (pI (x3 + 1))]) dX1_pupilsWho_28 rfl (by decide) rfl ?_
      refine Wq.goto (tgt := 4) dX1_pupilsWho_31 (by decide) ?_
      exact h
    · replace h := h.2 q2
      refine Wq.iinc (x := x2) (ls2 := [some (pO 0 r 0), some (pI x1), some (pI (x2 + 1)), some (pI x3)]) dX1_pupilsWho_25 rfl (by decide) rfl ?_
      refine Wq.iinc (x := x3) (ls2 := [some (pO 0 r 0), some (pI x1), some (pI (x2 + 1)), some (pI (x3 + 1))]) dX1_pupilsWho_28 rfl (by decide) rfl ?_
      refine Wq.goto (tgt := 4) dX1_pupilsWho_31 (by decide) ?_
      exact h
set_option maxHeartbeats 4000000 in
set_option maxRecDepth 20000 in
theorem sgX1_passedSoFar {g : GG} {d : Nat} {c n : Nat} {m : PM} {Q : Ou → PM → Nat → Nat → Prop} {r : Nat} (h : Wq g d MX1_passedSoFar c n 4 [some (pO 0 r 0), some (pI 0), some (pI 0)] [] m Q) : Wq g d MX1_passedSoFar c n 0 [some (pO 0 r 0)] [] m Q := by
  refine Wq.few (ls' := [some (pO 0 r 0), none, none]) ⟨rfl, trivial⟩ ?_
  refine Wq.iconst (v := 0) dX1_passedSoFar_0 (by decide) ?_
  refine Wq.istore_n (ls2 := [some (pO 0 r 0), some (pI 0), none]) dX1_passedSoFar_1 (by decide) rfl ?_
  refine Wq.iconst (v := 0) dX1_passedSoFar_2 (by decide) ?_
  refine Wq.istore_n (ls2 := [some (pO 0 r 0), some (pI 0), some (pI 0)]) dX1_passedSoFar_3 (by decide) rfl ?_
  exact h
set_option maxHeartbeats 4000000 in
set_option maxRecDepth 20000 in
theorem sgX1_passedSoFar_4 {g : GG} {d : Nat} {c n : Nat} {m : PM} {Q : Ou → PM → Nat → Nat → Prop} {r : Nat} {x1 : Int32} {x2 : Int32} (h : (((m.1 r 0 0 1) ≤ x2 → Q (.inl (some (pI x1))) m c n) ∧ (¬ (m.1 r 0 0 1) ≤ x2 → (vp_in x2 4 ∧ Wq g d MX1_passedSoFar c n 4 [some (pO 0 r 0), some (pI (x1 + (m.1 r 5 (ix x2) 1))), some (pI (x2 + 1))] [] m Q)))) : Wq g d MX1_passedSoFar c n 4 [some (pO 0 r 0), some (pI x1), some (pI x2)] [] m Q := by
  refine Wq.iload_n (x := x2) dX1_passedSoFar_4 rfl ?_
  refine Wq.aload_n (t := 0) (r := r) (j := 0) dX1_passedSoFar_5 rfl ?_
  refine Wq.getf (v := pI (m.1 r 0 0 1)) dX1_passedSoFar_6 fl_X1_15 ⟨rfl, rfl, by decide⟩ rfl ?_
  refine Wq.icmpge (tgt := 30) dX1_passedSoFar_9 (by decide) (fun q1 => ?_) (fun q1 => ?_)
  · replace h := h.1 q1
    refine Wq.iload_n (x := x1) dX1_passedSoFar_30 rfl ?_
    exact Wq.iret dX1_passedSoFar_31 (⟨_, rfl, rfl⟩) h
  · replace h := h.2 q1
    refine Wq.iload_n (x := x1) dX1_passedSoFar_12 rfl ?_
    refine Wq.aload_n (t := 0) (r := r) (j := 0) dX1_passedSoFar_13 rfl ?_
    refine Wq.getf (v := pO 8 r 0) dX1_passedSoFar_14 fl_X1_45 ⟨rfl, rfl, by decide⟩ rfl ?_
    refine Wq.iload_n (x := x2) dX1_passedSoFar_17 rfl ?_
    refine Wq.aaldE dX1_passedSoFar_18 h.1 ?_
    replace h := h.2
    refine Wq.getf (v := pI (m.1 r 5 (ix x2) 1)) dX1_passedSoFar_19 fl_X1_135 ⟨rfl, rfl, by decide⟩ rfl ?_
    refine Wq.iadd dX1_passedSoFar_22 ?_
    refine Wq.istore_n (ls2 := [some (pO 0 r 0), some (pI (x1 + (m.1 r 5 (ix x2) 1))), some (pI x2)]) dX1_passedSoFar_23 (by decide) rfl ?_
    refine Wq.iinc (x := x2) (ls2 := [some (pO 0 r 0), some (pI (x1 + (m.1 r 5 (ix x2) 1))), some (pI (x2 + 1))]) dX1_passedSoFar_24 rfl (by decide) rfl ?_
    refine Wq.goto (tgt := 4) dX1_passedSoFar_27 (by decide) ?_
    exact h
set_option maxHeartbeats 4000000 in
set_option maxRecDepth 20000 in
theorem sgX1_movedSoFar {g : GG} {d : Nat} {c n : Nat} {m : PM} {Q : Ou → PM → Nat → Nat → Prop} {r : Nat} (h : Wq g d MX1_movedSoFar c n 4 [some (pO 0 r 0), some (pI 0), some (pI 0)] [] m Q) : Wq g d MX1_movedSoFar c n 0 [some (pO 0 r 0)] [] m Q := by
  refine Wq.few (ls' := [some (pO 0 r 0), none, none]) ⟨rfl, trivial⟩ ?_
  refine Wq.iconst (v := 0) dX1_movedSoFar_0 (by decide) ?_
  refine Wq.istore_n (ls2 := [some (pO 0 r 0), some (pI 0), none]) dX1_movedSoFar_1 (by decide) rfl ?_
  refine Wq.iconst (v := 0) dX1_movedSoFar_2 (by decide) ?_
  refine Wq.istore_n (ls2 := [some (pO 0 r 0), some (pI 0), some (pI 0)]) dX1_movedSoFar_3 (by decide) rfl ?_
  exact h
set_option maxHeartbeats 4000000 in
set_option maxRecDepth 20000 in
theorem sgX1_movedSoFar_4 {g : GG} {d : Nat} {c n : Nat} {m : PM} {Q : Ou → PM → Nat → Nat → Prop} {r : Nat} {x1 : Int32} {x2 : Int32} (h : (((m.1 r 0 0 2) ≤ x2 → Q (.inl (some (pI x1))) m c n) ∧ (¬ (m.1 r 0 0 2) ≤ x2 → (vp_in x2 12 ∧ Wq g d MX1_movedSoFar c n 4 [some (pO 0 r 0), some (pI (x1 + (m.1 r 4 (ix x2) 5))), some (pI (x2 + 1))] [] m Q)))) : Wq g d MX1_movedSoFar c n 4 [some (pO 0 r 0), some (pI x1), some (pI x2)] [] m Q := by
  refine Wq.iload_n (x := x2) dX1_movedSoFar_4 rfl ?_
  refine Wq.aload_n (t := 0) (r := r) (j := 0) dX1_movedSoFar_5 rfl ?_
  refine Wq.getf (v := pI (m.1 r 0 0 2)) dX1_movedSoFar_6 fl_X1_18 ⟨rfl, rfl, by decide⟩ rfl ?_
  refine Wq.icmpge (tgt := 30) dX1_movedSoFar_9 (by decide) (fun q1 => ?_) (fun q1 => ?_)
  · replace h := h.1 q1
    refine Wq.iload_n (x := x1) dX1_movedSoFar_30 rfl ?_
    exact Wq.iret dX1_movedSoFar_31 (⟨_, rfl, rfl⟩) h
  · replace h := h.2 q1
    refine Wq.iload_n (x := x1) dX1_movedSoFar_12 rfl ?_
    refine Wq.aload_n (t := 0) (r := r) (j := 0) dX1_movedSoFar_13 rfl ?_
    refine Wq.getf (v := pO 7 r 0) dX1_movedSoFar_14 fl_X1_39 ⟨rfl, rfl, by decide⟩ rfl ?_
    refine Wq.iload_n (x := x2) dX1_movedSoFar_17 rfl ?_
    refine Wq.aaldP dX1_movedSoFar_18 h.1 ?_
    replace h := h.2
    refine Wq.getf (v := pI (m.1 r 4 (ix x2) 5)) dX1_movedSoFar_19 fl_X1_114 ⟨rfl, rfl, by decide⟩ rfl ?_
    refine Wq.iadd dX1_movedSoFar_22 ?_
    refine Wq.istore_n (ls2 := [some (pO 0 r 0), some (pI (x1 + (m.1 r 4 (ix x2) 5))), some (pI x2)]) dX1_movedSoFar_23 (by decide) rfl ?_
    refine Wq.iinc (x := x2) (ls2 := [some (pO 0 r 0), some (pI (x1 + (m.1 r 4 (ix x2) 5))), some (pI (x2 + 1))]) dX1_movedSoFar_24 rfl (by decide) rfl ?_
    refine Wq.goto (tgt := 4) dX1_movedSoFar_27 (by decide) ?_
    exact h
set_option maxHeartbeats 4000000 in
set_option maxRecDepth 20000 in
theorem sgX1_moneyTaken {g : GG} {d : Nat} {c n : Nat} {m : PM} {Q : Ou → PM → Nat → Nat → Prop} {r : Nat} (h : Wq g d MX1_moneyTaken c n 4 [some (pO 0 r 0), some (pI 0), some (pI 0)] [] m Q) : Wq g d MX1_moneyTaken c n 0 [some (pO 0 r 0)] [] m Q := by
  refine Wq.few (ls' := [some (pO 0 r 0), none, none]) ⟨rfl, trivial⟩ ?_
  refine Wq.iconst (v := 0) dX1_moneyTaken_0 (by decide) ?_
  refine Wq.istore_n (ls2 := [some (pO 0 r 0), some (pI 0), none]) dX1_moneyTaken_1 (by decide) rfl ?_
  refine Wq.iconst (v := 0) dX1_moneyTaken_2 (by decide) ?_
  refine Wq.istore_n (ls2 := [some (pO 0 r 0), some (pI 0), some (pI 0)]) dX1_moneyTaken_3 (by decide) rfl ?_
  exact h
set_option maxHeartbeats 4000000 in
set_option maxRecDepth 20000 in
theorem sgX1_moneyTaken_4 {g : GG} {d : Nat} {c n : Nat} {m : PM} {Q : Ou → PM → Nat → Nat → Prop} {r : Nat} {x1 : Int32} {x2 : Int32} (h : (((m.1 r 0 0 2) ≤ x2 → Q (.inl (some (pI x1))) m c n) ∧ (¬ (m.1 r 0 0 2) ≤ x2 → (vp_in x2 12 ∧ Wq g d MX1_moneyTaken c n 4 [some (pO 0 r 0), some (pI (x1 + (m.1 r 4 (ix x2) 7))), some (pI (x2 + 1))] [] m Q)))) : Wq g d MX1_moneyTaken c n 4 [some (pO 0 r 0), some (pI x1), some (pI x2)] [] m Q := by
  refine Wq.iload_n (x := x2) dX1_moneyTaken_4 rfl ?_
  refine Wq.aload_n (t := 0) (r := r) (j := 0) dX1_moneyTaken_5 rfl ?_
  refine Wq.getf (v := pI (m.1 r 0 0 2)) dX1_moneyTaken_6 fl_X1_18 ⟨rfl, rfl, by decide⟩ rfl ?_
  refine Wq.icmpge (tgt := 30) dX1_moneyTaken_9 (by decide) (fun q1 => ?_) (fun q1 => ?_)
  · replace h := h.1 q1
    refine Wq.iload_n (x := x1) dX1_moneyTaken_30 rfl ?_
    exact Wq.iret dX1_moneyTaken_31 (⟨_, rfl, rfl⟩) h
  · replace h := h.2 q1
    refine Wq.iload_n (x := x1) dX1_moneyTaken_12 rfl ?_
    refine Wq.aload_n (t := 0) (r := r) (j := 0) dX1_moneyTaken_13 rfl ?_
    refine Wq.getf (v := pO 7 r 0) dX1_moneyTaken_14 fl_X1_39 ⟨rfl, rfl, by decide⟩ rfl ?_
    refine Wq.iload_n (x := x2) dX1_moneyTaken_17 rfl ?_
    refine Wq.aaldP dX1_moneyTaken_18 h.1 ?_
    replace h := h.2
    refine Wq.getf (v := pI (m.1 r 4 (ix x2) 7)) dX1_moneyTaken_19 fl_X1_89 ⟨rfl, rfl, by decide⟩ rfl ?_
    refine Wq.iadd dX1_moneyTaken_22 ?_
    refine Wq.istore_n (ls2 := [some (pO 0 r 0), some (pI (x1 + (m.1 r 4 (ix x2) 7))), some (pI x2)]) dX1_moneyTaken_23 (by decide) rfl ?_
    refine Wq.iinc (x := x2) (ls2 := [some (pO 0 r 0), some (pI (x1 + (m.1 r 4 (ix x2) 7))), some (pI (x2 + 1))]) dX1_moneyTaken_24 rfl (by decide) rfl ?_
    refine Wq.goto (tgt := 4) dX1_moneyTaken_27 (by decide) ?_
    exact h
set_option maxHeartbeats 4000000 in
set_option maxRecDepth 20000 in
theorem sgJ7_fill_53178 {g : GG} {d : Nat} {c n : Nat} {m : PM} {Q : Ou → PM → Nat → Nat → Prop} {r : Nat} {x1 : Int32} (h : Wq g d MJ7_fill_53178 c n 5 [some (pO 3 r 0), some (pI x1), some (pI 0), some (pI 12)] [] m Q) : Wq g d MJ7_fill_53178 c n 0 [some (pO 3 r 0), some (pI x1)] [] m Q := by
  refine Wq.few (ls' := [some (pO 3 r 0), some (pI x1), none, none]) ⟨rfl, ⟨rfl, trivial⟩⟩ ?_
  refine Wq.iconst (v := 0) dJ7_fill_53178_0 (by decide) ?_
  refine Wq.istore_n (ls2 := [some (pO 3 r 0), some (pI x1), some (pI 0), none]) dJ7_fill_53178_1 (by decide) rfl ?_
  refine Wq.aload_n (t := 3) (r := r) (j := 0) dJ7_fill_53178_2 rfl ?_
  refine Wq.alen (v := 12) dJ7_fill_53178_3 rfl (by decide) rfl ?_
  refine Wq.istore_n (ls2 := [some (pO 3 r 0), some (pI x1), some (pI 0), some (pI 12)]) dJ7_fill_53178_4 (by decide) rfl ?_
  exact h
set_option maxHeartbeats 4000000 in
set_option maxRecDepth 20000 in
theorem sgJ7_fill_53178_5 {g : GG} {d : Nat} {c n : Nat} {m : PM} {Q : Ou → PM → Nat → Nat → Prop} {r : Nat} {x1 : Int32} {x2 : Int32} {x3 : Int32} (h : ((x3 ≤ x2 → Q (.inl none) m c n) ∧ (¬ x3 ≤ x2 → (vp_in x2 12 ∧ Wq g d MJ7_fill_53178 c n 5 [some (pO 3 r 0), some (pI x1), some (pI (x2 + 1)), some (pI x3)] [] (setI m 3 r 0 (ix x2) x1) Q)))) : Wq g d MJ7_fill_53178 c n 5 [some (pO 3 r 0), some (pI x1), some (pI x2), some (pI x3)] [] m Q := by
  refine Wq.iload_n (x := x2) dJ7_fill_53178_5 rfl ?_
  refine Wq.iload_n (x := x3) dJ7_fill_53178_6 rfl ?_
  refine Wq.icmpge (tgt := 20) dJ7_fill_53178_7 (by decide) (fun q1 => ?_) (fun q1 => ?_)
  · replace h := h.1 q1
    exact Wq.vret dJ7_fill_53178_20 rfl h
  · replace h := h.2 q1
    refine Wq.aload_n (t := 3) (r := r) (j := 0) dJ7_fill_53178_10 rfl ?_
    refine Wq.iload_n (x := x2) dJ7_fill_53178_11 rfl ?_
    refine Wq.iload_n (x := x1) dJ7_fill_53178_12 rfl ?_
    refine Wq.iast dJ7_fill_53178_13 rfl h.1 ?_
    replace h := h.2
    refine Wq.iinc (x := x2) (ls2 := [some (pO 3 r 0), some (pI x1), some (pI (x2 + 1)), some (pI x3)]) dJ7_fill_53178_14 rfl (by decide) rfl ?_
    refine Wq.goto (tgt := 5) dJ7_fill_53178_17 (by decide) ?_
    exact h
set_option maxHeartbeats 4000000 in
set_option maxRecDepth 20000 in
theorem sgX1_freeSlotsOf {g : GG} {d : Nat} {c n : Nat} {m : PM} {Q : Ou → PM → Nat → Nat → Prop} {r : Nat} {x1 : Int32} {x2 : Int32} (h : Wq g (d + 1) MX1_freeSlotsOf c n 2 [some (pO 0 r 0), some (pI x1), some (pI x2), some (pI 0)] [] m Q) : Wq g (d + 1) MX1_freeSlotsOf c n 0 [some (pO 0 r 0), some (pI x1), some (pI x2)] [] m Q := by
  refine Wq.few (ls' := [some (pO 0 r 0), some (pI x1), some (pI x2), none]) ⟨rfl, ⟨rfl, ⟨rfl, trivial⟩⟩⟩ ?_
  refine Wq.iconst (v := 0) dX1_freeSlotsOf_0 (by decide) ?_
  refine Wq.istore_n (ls2 := [some (pO 0 r 0), some (pI x1), some (pI x2), some (pI 0)]) dX1_freeSlotsOf_1 (by decide) rfl ?_
  exact h
set_option maxHeartbeats 4000000 in
set_option maxRecDepth 20000 in
theorem sgX1_freeSlotsOf_2 {g : GG} {d : Nat} {c n : Nat} {m : PM} {Q : Ou → PM → Nat → Nat → Prop} {r : Nat} {x1 : Int32} {x2 : Int32} {x3 : Int32} (h : ((4 ≤ x3 → Q (.inl none) m c n) ∧ (¬ 4 ≤ x3 → (vp_in (((x2 * 16) + (x3 * 4)) + x1) 160 ∧ Wq g (d + 1) MX1_freeSlotsOf c n 2 [some (pO 0 r 0), some (pI x1), some (pI x2), some (pI (x3 + 1))] [] (setI m 2 r 0 (ix (((x2 * 16) + (x3 * 4)) + x1)) (-1)) Q)))) : Wq g (d + 1) MX1_freeSlotsOf c n 2 [some (pO 0 r 0), some (pI x1), some (pI x2), some (pI x3)] [] m Q := by
  refine Wq.iload_n (x := x3) dX1_freeSlotsOf_2 rfl ?_
  refine Wq.iconst (v := 4) dX1_freeSlotsOf_3 (by decide) ?_
  refine Wq.icmpge (tgt := 25) dX1_freeSlotsOf_4 (by decide) (fun q1 => ?_) (fun q1 => ?_)
  · replace h := h.1 q1
    exact Wq.vret dX1_freeSlotsOf_25 rfl h
  · replace h := h.2 q1
    refine Wq.aload_n (t := 0) (r := r) (j := 0) dX1_freeSlotsOf_7 rfl ?_
    refine Wq.getf (v := pO 2 r 0) dX1_freeSlotsOf_8 fl_X1_34 ⟨rfl, rfl, by decide⟩ rfl ?_
    refine Wq.iload_n (x := x1) dX1_freeSlotsOf_11 rfl ?_
    refine Wq.iload_n (x := x2) dX1_freeSlotsOf_12 rfl ?_
    refine Wq.iload_n (x := x3) dX1_freeSlotsOf_13 rfl ?_
    refine Wq.callNI (As := [pI x1, pI x2, pI x3]) dX1_freeSlotsOf_14 fX4_cellAt nl_X1_106 rfl (Nat.le_of_ble_eq_true rfl) (Nat.le_of_ble_eq_true rfl) (suX4_cellAt trivial) (fun x2 m9 e9 => ?_)
    obtain ⟨rfl, rfl⟩ := e9
    refine Wq.iconst (v := (-1)) dX1_freeSlotsOf_17 (by decide) ?_
    refine Wq.iast dX1_freeSlotsOf_18 rfl h.1 ?_
    replace h := h.2
    refine Wq.iinc (x := x3) (ls2 := [some (pO 0 r 0), some (pI x1), some (pI x2), some (pI (x3 + 1))]) dX1_freeSlotsOf_19 rfl (by decide) rfl ?_
    refine Wq.goto (tgt := 2) dX1_freeSlotsOf_22 (by decide) ?_
    exact h
set_option maxHeartbeats 4000000 in
set_option maxRecDepth 20000 in
theorem sgX1_placeInQueue {g : GG} {d : Nat} {c n : Nat} {m : PM} {Q : Ou → PM → Nat → Nat → Prop} {r : Nat} {x1 : Int32} (h : (vp_in x1 12 ∧ (((m.1 r 4 (ix x1) 0) = 1 → Wq g (d + 1) MX1_placeInQueue c n 22 [some (pO 0 r 0), none, some (pO 4 r (ix x1)), some (pI 0), some (pI 0)] [] m Q) ∧ (¬ (m.1 r 4 (ix x1) 0) = 1 → Q (.inl (some (pI (-1)))) m c n)))) : Wq g (d + 1) MX1_placeInQueue c n 0 [some (pO 0 r 0), some (pI x1)] [] m Q := by
  refine Wq.few (ls' := [some (pO 0 r 0), some (pI x1), none, none, none]) ⟨rfl, ⟨rfl, trivial⟩⟩ ?_
  refine Wq.aload_n (t := 0) (r := r) (j := 0) dX1_placeInQueue_0 rfl ?_
  refine Wq.getf (v := pO 7 r 0) dX1_placeInQueue_1 fl_X1_39 ⟨rfl, rfl, by decide⟩ rfl ?_
  refine Wq.iload_n (x := x1) dX1_placeInQueue_4 rfl ?_
  refine Wq.aaldP dX1_placeInQueue_5 h.1 ?_
  replace h := h.2
  refine Wq.astore_n (ls2 := [some (pO 0 r 0), some (pI x1), some (pO 4 r (ix x1)), none, none]) dX1_placeInQueue_6 (by decide) rfl ?_
  refine Wq.aload_n (t := 4) (r := r) (j := (ix x1)) dX1_placeInQueue_7 rfl ?_
  refine Wq.getf (v := pI (m.1 r 4 (ix x1) 0)) dX1_placeInQueue_8 fl_X1_83 ⟨rfl, rfl, by decide⟩ rfl ?_
  refine Wq.iconst (v := 1) dX1_placeInQueue_11 (by decide) ?_
  refine Wq.icmpeq (tgt := 17) dX1_placeInQueue_12 (by decide) (fun q1 => ?_) (fun q1 => ?_)
  · replace h := h.1 q1
    refine Wq.iconst (v := 0) dX1_placeInQueue_17 (by decide) ?_
    refine Wq.istore_n (ls2 := [some (pO 0 r 0), some (pI x1), some (pO 4 r (ix x1)), some (pI 0), none]) dX1_placeInQueue_18 (by decide) rfl ?_
    refine Wq.iconst (v := 0) dX1_placeInQueue_19 (by decide) ?_
    refine Wq.istore (ls2 := [some (pO 0 r 0), some (pI x1), some (pO 4 r (ix x1)), some (pI 0), some (pI 0)]) dX1_placeInQueue_20 (by decide) rfl ?_
    refine Wq.few (ls' := [some (pO 0 r 0), none, some (pO 4 r (ix x1)), some (pI 0), some (pI 0)]) ⟨rfl, ⟨rfl, ⟨rfl, ⟨rfl, trivial⟩⟩⟩⟩ ?_
    exact h
  · replace h := h.2 q1
    refine Wq.iconst (v := (-1)) dX1_placeInQueue_15 (by decide) ?_
    exact Wq.iret dX1_placeInQueue_16 (⟨_, rfl, rfl⟩) h
set_option maxHeartbeats 4000000 in
set_option maxRecDepth 20000 in
theorem sgX1_placeInQueue_22 {g : GG} {d : Nat} {c n : Nat} {m : PM} {Q : Ou → PM → Nat → Nat → Prop} {j2 : Nat} {r : Nat} {x3 : Int32} {x4 : Int32} (h : (((m.1 r 0 0 2) ≤ x4 → Q (.inl (some (pI x3))) m c n) ∧ (¬ (m.1 r 0 0 2) ≤ x4 → (vp_in x4 12 ∧ ((¬ (m.1 r 4 (ix x4) 0) = 1 → Wq g (d + 1) MX1_placeInQueue c n 22 [some (pO 0 r 0), none, some (pO 4 r j2), some (pI x3), some (pI (x4 + 1))] [] m Q) ∧ ((m.1 r 4 (ix x4) 0) = 1 → (vp_in x4 12 ∧ ((¬ (((m.1 r 4 j2 5) < (m.1 r 4 (ix x4) 5)) ∨ (((m.1 r 4 (ix x4) 5) = (m.1 r 4 j2 5)) ∧ (¬ (m.1 r 4 j2 6) ≤ (m.1 r 4 (ix x4) 6)))) → Wq g (d + 1) MX1_placeInQueue c n 22 [some (pO 0 r 0), none, some (pO 4 r j2), some (pI x3), some (pI (x4 + 1))] [] m Q) ∧ (((m.1 r 4 j2 5) < (m.1 r 4 (ix x4) 5)) ∨ (((m.1 r 4 (ix x4) 5) = (m.1 r 4 j2 5)) ∧ (¬ (m.1 r 4 j2 6) ≤ (m.1 r 4 (ix x4) 6))) → Wq g (d + 1) MX1_placeInQueue c n 22 [some (pO 0 r 0), none, some (pO 4 r j2), some (pI (x3 + 1)), some (pI (x4 + 1))] [] m Q))))))))) : Wq g (d + 1) MX1_placeInQueue c n 22 [some (pO 0 r 0), none, some (pO 4 r j2), some (pI x3), some (pI x4)] [] m Q := by
  refine Wq.iload (x := x4) dX1_placeInQueue_22 rfl ?_
  refine Wq.aload_n (t := 0) (r := r) (j := 0) dX1_placeInQueue_24 rfl ?_
  refine Wq.getf (v := pI (m.1 r 0 0 2)) dX1_placeInQueue_25 fl_X1_18 ⟨rfl, rfl, by decide⟩ rfl ?_
  refine Wq.icmpge (tgt := 68) dX1_placeInQueue_28 (by decide) (fun q1 => ?_) (fun q1 => ?_)
  · replace h := h.1 q1
    refine Wq.iload_n (x := x3) dX1_placeInQueue_68 rfl ?_
    exact Wq.iret dX1_placeInQueue_69 (⟨_, rfl, rfl⟩) h
  · replace h := h.2 q1
    refine Wq.aload_n (t := 0) (r := r) (j := 0) dX1_placeInQueue_31 rfl ?_
    refine Wq.getf (v := pO 7 r 0) dX1_placeInQueue_32 fl_X1_39 ⟨rfl, rfl, by decide⟩ rfl ?_
    refine Wq.iload (x := x4) dX1_placeInQueue_35 rfl ?_
    refine Wq.aaldP dX1_placeInQueue_37 h.1 ?_
    replace h := h.2
    refine Wq.getf (v := pI (m.1 r 4 (ix x4) 0)) dX1_placeInQueue_38 fl_X1_83 ⟨rfl, rfl, by decide⟩ rfl ?_
    refine Wq.iconst (v := 1) dX1_placeInQueue_41 (by decide) ?_
    refine Wq.icmpne (tgt := 62) dX1_placeInQueue_42 (by decide) (fun q2 => ?_) (fun q2 => ?_)
    · replace h := h.1 q2
      refine Wq.iinc (x := x4) (ls2 := [some (pO 0 r 0), none, some (pO 4 r j2), some (pI x3), some (pI (x4 + 1))]) dX1_placeInQueue_62 rfl (by decide) rfl ?_
      refine Wq.goto (tgt := 22) dX1_placeInQueue_65 (by decide) ?_
      exact h
    · replace h := h.2 q2
      refine Wq.aload_n (t := 0) (r := r) (j := 0) dX1_placeInQueue_45 rfl ?_
      refine Wq.getf (v := pO 7 r 0) dX1_placeInQueue_46 fl_X1_39 ⟨rfl, rfl, by decide⟩ rfl ?_
      refine Wq.iload (x := x4) dX1_placeInQueue_49 rfl ?_
      refine Wq.aaldP dX1_placeInQueue_51 h.1 ?_
      replace h := h.2
      refine Wq.aload_n (t := 4) (r := r) (j := j2) dX1_placeInQueue_52 rfl ?_
      refine Wq.callVI (As := [pO 4 r j2]) dX1_placeInQueue_53 fX3_comesAheadOf ml_X1_155 rfl (by decide) rfl (Nat.le_of_ble_eq_true rfl) (Nat.le_of_ble_eq_true rfl) (suX3_comesAheadOf trivial) (fun x4 m9 e9 => ?_)
      obtain ⟨rfl, rfl⟩ := e9
      refine Wq.ifeq (tgt := 62) dX1_placeInQueue_56 (by decide) (fun q3 => ?_) (fun q3 => ?_)
      · replace h := h.1 (bI_0 q3)
        refine Wq.iinc (x := x4) (ls2 := [some (pO 0 r 0), none, some (pO 4 r j2), some (pI x3), some (pI (x4 + 1))]) dX1_placeInQueue_62 rfl (by decide) rfl ?_
        refine Wq.goto (tgt := 22) dX1_placeInQueue_65 (by decide) ?_
        exact h
      · replace h := h.2 (bI_1 q3)
        refine Wq.iinc (x := x3) (ls2 := [some (pO 0 r 0), none, some (pO 4 r j2), some (pI (x3 + 1)), some (pI x4)]) dX1_placeInQueue_59 rfl (by decide) rfl ?_
        refine Wq.iinc (x := x4) (ls2 := [some (pO 0 r 0), none, some (pO 4 r j2), some (pI (x3 + 1)), some (pI (x4 + 1))]) dX1_placeInQueue_62 rfl (by decide) rfl ?_
        refine Wq.goto (tgt := 22) dX1_placeInQueue_65 (by decide) ?_
        exact h
set_option maxHeartbeats 4000000 in
set_option maxRecDepth 20000 in
theorem sgX1_earliestCell {g : GG} {d : Nat} {c n : Nat} {m : PM} {Q : Ou → PM → Nat → Nat → Prop} {r : Nat} {x1 : Int32} (h : Wq g (d + 1) MX1_earliestCell c n 2 [some (pO 0 r 0), some (pI x1), some (pI 0)] [] m Q) : Wq g (d + 1) MX1_earliestCell c n 0 [some (pO 0 r 0), some (pI x1)] [] m Q := by
  refine Wq.few (ls' := [some (pO 0 r 0), some (pI x1), none]) ⟨rfl, ⟨rfl, trivial⟩⟩ ?_
  refine Wq.iconst (v := 0) dX1_earliestCell_0 (by decide) ?_
  refine Wq.istore_n (ls2 := [some (pO 0 r 0), some (pI x1), some (pI 0)]) dX1_earliestCell_1 (by decide) rfl ?_
  exact h
set_option maxHeartbeats 4000000 in
set_option maxRecDepth 20000 in
theorem sgX1_earliestCell_2 {g : GG} {d : Nat} {c n : Nat} {m : PM} {Q : Ou → PM → Nat → Nat → Prop} {r : Nat} {x1 : Int32} {x2 : Int32} (h : ((160 ≤ x2 → Q (.inl (some (pI (-1)))) m c n) ∧ (¬ 160 ≤ x2 → (vp_in x2 160 ∧ ((¬ (m.1 r 2 0 (ix x2)) = (-1) → Wq g (d + 1) MX1_earliestCell c n 2 [some (pO 0 r 0), some (pI x1), some (pI (x2 + 1))] [] m Q) ∧ ((m.1 r 2 0 (ix x2)) = (-1) → ((vp_in x1 12 ∧ True) ∧ ((¬ (¬ ((m.1 r 0 0 0) + (x2 / 16)) < (m.1 r 4 (ix x1) 2)) → Wq g (d + 1) MX1_earliestCell c n 2 [some (pO 0 r 0), some (pI x1), some (pI (x2 + 1))] [] m Q) ∧ (¬ ((m.1 r 0 0 0) + (x2 / 16)) < (m.1 r 4 (ix x1) 2) → ((¬ (m.1 r 1 0 (ix 1)) = 0 → (vp_in x1 12 ∧ True)) ∧ ((¬ (((m.1 r 1 0 (ix 1)) = 0) ∨ (¬ (m.1 r 4 (ix x1) 4) = (irm x2 4))) → Wq g (d + 1) MX1_earliestCell c n 2 [some (pO 0 r 0), some (pI x1), some (pI (x2 + 1))] [] m Q) ∧ (((m.1 r 1 0 (ix 1)) = 0) ∨ (¬ (m.1 r 4 (ix x1) 4) = (irm x2 4)) → Q (.inl (some (pI x2))) m c n)))))))))))) : Wq g (d + 1) MX1_earliestCell c n 2 [some (pO 0 r 0), some (pI x1), some (pI x2)] [] m Q := by
  refine Wq.iload_n (x := x2) dX1_earliestCell_2 rfl ?_
  refine Wq.aload_n (t := 0) (r := r) (j := 0) dX1_earliestCell_3 rfl ?_
  refine Wq.getf (v := pO 2 r 0) dX1_earliestCell_4 fl_X1_34 ⟨rfl, rfl, by decide⟩ rfl ?_
  refine Wq.alen (v := 160) dX1_earliestCell_7 rfl (by decide) rfl ?_
  refine Wq.icmpge (tgt := 53) dX1_earliestCell_8 (by decide) (fun q1 => ?_) (fun q1 => ?_)
  · replace h := h.1 q1
    refine Wq.iconst (v := (-1)) dX1_earliestCell_53 (by decide) ?_
    exact Wq.iret dX1_earliestCell_54 (⟨_, rfl, rfl⟩) h
  · replace h := h.2 q1
    refine Wq.aload_n (t := 0) (r := r) (j := 0) dX1_earliestCell_11 rfl ?_
    refine Wq.getf (v := pO 2 r 0) dX1_earliestCell_12 fl_X1_34 ⟨rfl, rfl, by decide⟩ rfl ?_
    refine Wq.iload_n (x := x2) dX1_earliestCell_15 rfl ?_
    refine Wq.iald dX1_earliestCell_16 rfl h.1 ?_
    replace h := h.2
    refine Wq.iconst (v := (-1)) dX1_earliestCell_17 (by decide) ?_
    refine Wq.icmpne (tgt := 47) dX1_earliestCell_18 (by decide) (fun q2 => ?_) (fun q2 => ?_)
    · replace h := h.1 q2
      refine Wq.iinc (x := x2) (ls2 := [some (pO 0 r 0), some (pI x1), some (pI (x2 + 1))]) dX1_earliestCell_47 rfl (by decide) rfl ?_
      refine Wq.goto (tgt := 2) dX1_earliestCell_50 (by decide) ?_
      exact h
    · replace h := h.2 q2
      refine Wq.aload_n (t := 0) (r := r) (j := 0) dX1_earliestCell_21 rfl ?_
      refine Wq.iload_n (x := x1) dX1_earliestCell_22 rfl ?_
      refine Wq.iload_n (x := x2) dX1_earliestCell_23 rfl ?_
      refine Wq.callNI (As := [pI x2]) dX1_earliestCell_24 fX4_daysTo nl_X1_103 rfl (Nat.le_of_ble_eq_true rfl) (Nat.le_of_ble_eq_true rfl) (suX4_daysTo trivial) (fun x8 m9 e9 => ?_)
      obtain ⟨rfl, rfl⟩ := e9
      refine Wq.callVI (As := [pI x1, pI (x2 / 16)]) dX1_earliestCell_27 fX1_couldCome ml_X1_159 rfl (by decide) rfl (Nat.le_of_ble_eq_true rfl) (Nat.le_of_ble_eq_true rfl) (suX1_couldCome h.1) (fun x7 m9 e9 => ?_)
      obtain ⟨rfl, rfl⟩ := e9
      replace h := h.2
      refine Wq.ifeq (tgt := 47) dX1_earliestCell_30 (by decide) (fun q3 => ?_) (fun q3 => ?_)
      · replace h := h.1 (bI_0 q3)
        refine Wq.iinc (x := x2) (ls2 := [some (pO 0 r 0), some (pI x1), some (pI (x2 + 1))]) dX1_earliestCell_47 rfl (by decide) rfl ?_
        refine Wq.goto (tgt := 2) dX1_earliestCell_50 (by decide) ?_
        exact h
      · replace h := h.2 (bI_1 q3)
        refine Wq.aload_n (t := 0) (r := r) (j := 0) dX1_earliestCell_33 rfl ?_
        refine Wq.iload_n (x := x1) dX1_earliestCell_34 rfl ?_
        refine Wq.iload_n (x := x2) dX1_earliestCell_35 rfl ?_
        refine Wq.callNI (As := [pI x2]) dX1_earliestCell_36 fX4_examinerAt nl_X1_120 rfl (Nat.le_of_ble_eq_true rfl) (Nat.le_of_ble_eq_true rfl) (suX4_examinerAt trivial) (fun x6 m9 e9 => ?_)
        obtain ⟨rfl, rfl⟩ := e9
        refine Wq.callVI (As := [pI x1, pI (irm x2 4)]) dX1_earliestCell_39 fX1_mayMeet ml_X1_163 rfl (by decide) rfl (Nat.le_of_ble_eq_true rfl) (Nat.le_of_ble_eq_true rfl) (suX1_mayMeet h.1) (fun x5 m9 e9 => ?_)
        obtain ⟨rfl, rfl⟩ := e9
        replace h := h.2
        refine Wq.ifeq (tgt := 47) dX1_earliestCell_42 (by decide) (fun q4 => ?_) (fun q4 => ?_)
        · replace h := h.1 (bI_0 q4)
          refine Wq.iinc (x := x2) (ls2 := [some (pO 0 r 0), some (pI x1), some (pI (x2 + 1))]) dX1_earliestCell_47 rfl (by decide) rfl ?_
          refine Wq.goto (tgt := 2) dX1_earliestCell_50 (by decide) ?_
          exact h
        · replace h := h.2 (bI_1 q4)
          refine Wq.iload_n (x := x2) dX1_earliestCell_45 rfl ?_
          exact Wq.iret dX1_earliestCell_46 (⟨_, rfl, rfl⟩) h
set_option maxHeartbeats 4000000 in
set_option maxRecDepth 20000 in
theorem sgX1_routeFor {g : GG} {d : Nat} {c n : Nat} {m : PM} {Q : Ou → PM → Nat → Nat → Prop} {r : Nat} {x1 : Int32} {x2 : Int32} (h : (vp_in x2 4 ∧ (vp_in x1 12 ∧ Wp g d MX0_leastUsedRouteBut 0 [some (pO 5 r (ix x2)), some (pI (m.1 r 4 (ix x1) 3))] [] m (cI fun r1 m2 => Q (.inl (some (pI r1))) m2 c n)))) : Wq g (d + 1) MX1_routeFor c n 0 [some (pO 0 r 0), some (pI x1), some (pI x2)] [] m Q := by
  refine Wq.few (ls' := [some (pO 0 r 0), some (pI x1), some (pI x2)]) ⟨rfl, ⟨rfl, ⟨rfl, trivial⟩⟩⟩ ?_
  refine Wq.aload_n (t := 0) (r := r) (j := 0) dX1_routeFor_0 rfl ?_
  refine Wq.getf (v := pO 8 r 0) dX1_routeFor_1 fl_X1_45 ⟨rfl, rfl, by decide⟩ rfl ?_
  refine Wq.iload_n (x := x2) dX1_routeFor_4 rfl ?_
  refine Wq.aaldE dX1_routeFor_5 h.1 ?_
  replace h := h.2
  refine Wq.aload_n (t := 0) (r := r) (j := 0) dX1_routeFor_6 rfl ?_
  refine Wq.getf (v := pO 7 r 0) dX1_routeFor_7 fl_X1_39 ⟨rfl, rfl, by decide⟩ rfl ?_
  refine Wq.iload_n (x := x1) dX1_routeFor_10 rfl ?_
  refine Wq.aaldP dX1_routeFor_11 h.1 ?_
  replace h := h.2
  refine Wq.getf (v := pI (m.1 r 4 (ix x1) 3)) dX1_routeFor_12 fl_X1_129 ⟨rfl, rfl, by decide⟩ rfl ?_
  refine Wq.callVI (As := [pI (m.1 r 4 (ix x1) 3)]) dX1_routeFor_15 fX0_leastUsedRouteBut ml_X1_166 rfl (by decide) rfl (Nat.le_of_ble_eq_true rfl) (Nat.le_of_ble_eq_true rfl) h (fun r1 m2 h => ?_)
  exact Wq.iret dX1_routeFor_18 (⟨_, rfl, rfl⟩) h
set_option maxHeartbeats 4000000 in
set_option maxRecDepth 20000 in
theorem sgX1_freeSlotsOfGroup {g : GG} {d : Nat} {c n : Nat} {m : PM} {Q : Ou → PM → Nat → Nat → Prop} {r : Nat} {x1 : Int32} {x2 : Int32} (h : Wq g (d + 1) MX1_freeSlotsOfGroup c n 5 [some (pO 0 r 0), some (pI x1), some (pI x2), some (pI 0), some (pI 0)] [] m Q) : Wq g (d + 1) MX1_freeSlotsOfGroup c n 0 [some (pO 0 r 0), some (pI x1), some (pI x2)] [] m Q := by
  refine Wq.few (ls' := [some (pO 0 r 0), some (pI x1), some (pI x2), none, none]) ⟨rfl, ⟨rfl, ⟨rfl, trivial⟩⟩⟩ ?_
  refine Wq.iconst (v := 0) dX1_freeSlotsOfGroup_0 (by decide) ?_
  refine Wq.istore_n (ls2 := [some (pO 0 r 0), some (pI x1), some (pI x2), some (pI 0), none]) dX1_freeSlotsOfGroup_1 (by decide) rfl ?_
  refine Wq.iconst (v := 0) dX1_freeSlotsOfGroup_2 (by decide) ?_
  refine Wq.istore (ls2 := [some (pO 0 r 0), some (pI x1), some (pI x2), some (pI 0), some (pI 0)]) dX1_freeSlotsOfGroup_3 (by decide) rfl ?_
  exact h
set_option maxHeartbeats 4000000 in
set_option maxRecDepth 20000 in
theorem sgX1_freeSlotsOfGroup_5 {g : GG} {d : Nat} {c n : Nat} {m : PM} {Q : Ou → PM → Nat → Nat → Prop} {r : Nat} {x1 : Int32} {x2 : Int32} {x3 : Int32} {x4 : Int32} (h : ((16 ≤ x4 → Q (.inl (some (pI x3))) m c n) ∧ (¬ 16 ≤ x4 → (vp_in ((x2 * 16) + x4) 160 ∧ ((¬ (m.1 r 2 0 (ix ((x2 * 16) + x4))) = (-1) → Wq g (d + 1) MX1_freeSlotsOfGroup c n 5 [some (pO 0 r 0), some (pI x1), some (pI x2), some (pI x3), some (pI (x4 + 1))] [] m Q) ∧ ((m.1 r 2 0 (ix ((x2 * 16) + x4))) = (-1) → ((¬ (((x1 >>> ((irm x4 4) &&& 31)) &&& 1) = 1) → Wq g (d + 1) MX1_freeSlotsOfGroup c n 5 [some (pO 0 r 0), some (pI x1), some (pI x2), some (pI x3), some (pI (x4 + 1))] [] m Q) ∧ (((x1 >>> ((irm x4 4) &&& 31)) &&& 1) = 1 → Wq g (d + 1) MX1_freeSlotsOfGroup c n 5 [some (pO 0 r 0), some (pI x1), some (pI x2), some (pI (x3 + 1)), some (pI (x4 + 1))] [] m Q)))))))) : Wq g (d + 1) MX1_freeSlotsOfGroup c n 5 [some (pO 0 r 0), some (pI x1), some (pI x2), some (pI x3), some (pI x4)] [] m Q := by
  refine Wq.iload (x := x4) dX1_freeSlotsOfGroup_5 rfl ?_
  refine Wq.bipush (v := 16) dX1_freeSlotsOfGroup_7 (by decide) ?_
  refine Wq.icmpge (tgt := 49) dX1_freeSlotsOfGroup_9 (by decide) (fun q1 => ?_) (fun q1 => ?_)
  · replace h := h.1 q1
    refine Wq.iload_n (x := x3) dX1_freeSlotsOfGroup_49 rfl ?_
    exact Wq.iret dX1_freeSlotsOfGroup_50 (⟨_, rfl, rfl⟩) h
  · replace h := h.2 q1
    refine Wq.aload_n (t := 0) (r := r) (j := 0) dX1_freeSlotsOfGroup_12 rfl ?_
    refine Wq.getf (v := pO 2 r 0) dX1_freeSlotsOfGroup_13 fl_X1_34 ⟨rfl, rfl, by decide⟩ rfl ?_
    refine Wq.iload_n (x := x2) dX1_freeSlotsOfGroup_16 rfl ?_
    refine Wq.bipush (v := 16) dX1_freeSlotsOfGroup_17 (by decide) ?_
    refine Wq.imul dX1_freeSlotsOfGroup_19 ?_
    refine Wq.iload (x := x4) dX1_freeSlotsOfGroup_20 rfl ?_
    refine Wq.iadd dX1_freeSlotsOfGroup_22 ?_
    refine Wq.iald dX1_freeSlotsOfGroup_23 rfl h.1 ?_
    replace h := h.2
    refine Wq.iconst (v := (-1)) dX1_freeSlotsOfGroup_24 (by decide) ?_
    refine Wq.icmpne (tgt := 43) dX1_freeSlotsOfGroup_25 (by decide) (fun q2 => ?_) (fun q2 => ?_)
    · replace h := h.1 q2
      refine Wq.iinc (x := x4) (ls2 := [some (pO 0 r 0), some (pI x1), some (pI x2), some (pI x3), some (pI (x4 + 1))]) dX1_freeSlotsOfGroup_43 rfl (by decide) rfl ?_
      refine Wq.goto (tgt := 5) dX1_freeSlotsOfGroup_46 (by decide) ?_
      exact h
    · replace h := h.2 q2
      refine Wq.iload_n (x := x1) dX1_freeSlotsOfGroup_28 rfl ?_
      refine Wq.iload (x := x4) dX1_freeSlotsOfGroup_29 rfl ?_
      refine Wq.callNI (As := [pI x4]) dX1_freeSlotsOfGroup_31 fX4_examinerAt nl_X1_120 rfl (Nat.le_of_ble_eq_true rfl) (Nat.le_of_ble_eq_true rfl) (suX4_examinerAt trivial) (fun x5 m9 e9 => ?_)
      obtain ⟨rfl, rfl⟩ := e9
      refine Wq.callSI (As := [pI x1, pI (irm x4 4)]) dX1_freeSlotsOfGroup_34 fX1_isInGroup ml_X1_175 rfl (Nat.le_of_ble_eq_true rfl) (Nat.le_of_ble_eq_true rfl) (suX1_isInGroup trivial) (fun x4 m9 e9 => ?_)
      obtain ⟨rfl, rfl⟩ := e9
      refine Wq.ifeq (tgt := 43) dX1_freeSlotsOfGroup_37 (by decide) (fun q3 => ?_) (fun q3 => ?_)
      · replace h := h.1 (bI_0 q3)
        refine Wq.iinc (x := x4) (ls2 := [some (pO 0 r 0), some (pI x1), some (pI x2), some (pI x3), some (pI (x4 + 1))]) dX1_freeSlotsOfGroup_43 rfl (by decide) rfl ?_
        refine Wq.goto (tgt := 5) dX1_freeSlotsOfGroup_46 (by decide) ?_
        exact h
      · replace h := h.2 (bI_1 q3)
        refine Wq.iinc (x := x3) (ls2 := [some (pO 0 r 0), some (pI x1), some (pI x2), some (pI (x3 + 1)), some (pI x4)]) dX1_freeSlotsOfGroup_40 rfl (by decide) rfl ?_
        refine Wq.iinc (x := x4) (ls2 := [some (pO 0 r 0), some (pI x1), some (pI x2), some (pI (x3 + 1)), some (pI (x4 + 1))]) dX1_freeSlotsOfGroup_43 rfl (by decide) rfl ?_
        refine Wq.goto (tgt := 5) dX1_freeSlotsOfGroup_46 (by decide) ?_
        exact h
set_option maxHeartbeats 4000000 in
set_option maxRecDepth 20000 in
theorem sgX1_mayMeetOutside {g : GG} {d : Nat} {c n : Nat} {m : PM} {Q : Ou → PM → Nat → Nat → Prop} {r : Nat} {x1 : Int32} {x2 : Int32} (h : Wq g (d + 1) MX1_mayMeetOutside c n 2 [some (pO 0 r 0), some (pI x1), some (pI x2), some (pI 0)] [] m Q) : Wq g (d + 1) MX1_mayMeetOutside c n 0 [some (pO 0 r 0), some (pI x1), some (pI x2)] [] m Q := by
  refine Wq.few (ls' := [some (pO 0 r 0), some (pI x1), some (pI x2), none]) ⟨rfl, ⟨rfl, ⟨rfl, trivial⟩⟩⟩ ?_
  refine Wq.iconst (v := 0) dX1_mayMeetOutside_0 (by decide) ?_
  refine Wq.istore_n (ls2 := [some (pO 0 r 0), some (pI x1), some (pI x2), some (pI 0)]) dX1_mayMeetOutside_1 (by decide) rfl ?_
  exact h
set_option maxHeartbeats 4000000 in
set_option maxRecDepth 20000 in
theorem sgX1_mayMeetOutside_2 {g : GG} {d : Nat} {c n : Nat} {m : PM} {Q : Ou → PM → Nat → Nat → Prop} {r : Nat} {x1 : Int32} {x2 : Int32} {x3 : Int32} (h : (((m.1 r 0 0 1) ≤ x3 → Q (.inl (some (pI 0))) m c n) ∧ (¬ (m.1 r 0 0 1) ≤ x3 → ((((x2 >>> (x3 &&& 31)) &&& 1) = 1 → Wq g (d + 1) MX1_mayMeetOutside c n 2 [some (pO 0 r 0), some (pI x1), some (pI x2), some (pI (x3 + 1))] [] m Q) ∧ (¬ (((x2 >>> (x3 &&& 31)) &&& 1) = 1) → ((¬ (m.1 r 1 0 (ix 1)) = 0 → (vp_in x1 12 ∧ True)) ∧ ((¬ (((m.1 r 1 0 (ix 1)) = 0) ∨ (¬ (m.1 r 4 (ix x1) 4) = x3)) → Wq g (d + 1) MX1_mayMeetOutside c n 2 [some (pO 0 r 0), some (pI x1), some (pI x2), some (pI (x3 + 1))] [] m Q) ∧ (((m.1 r 1 0 (ix 1)) = 0) ∨ (¬ (m.1 r 4 (ix x1) 4) = x3) → Q (.inl (some (pI 1))) m c n)))))))) : Wq g (d + 1) MX1_mayMeetOutside c n 2 [some (pO 0 r 0), some (pI x1), some (pI x2), some (pI x3)] [] m Q := by
  refine Wq.iload_n (x := x3) dX1_mayMeetOutside_2 rfl ?_
  refine Wq.aload_n (t := 0) (r := r) (j := 0) dX1_mayMeetOutside_3 rfl ?_
  refine Wq.getf (v := pI (m.1 r 0 0 1)) dX1_mayMeetOutside_4 fl_X1_15 ⟨rfl, rfl, by decide⟩ rfl ?_
  refine Wq.icmpge (tgt := 35) dX1_mayMeetOutside_7 (by decide) (fun q1 => ?_) (fun q1 => ?_)
  · replace h := h.1 q1
    refine Wq.iconst (v := 0) dX1_mayMeetOutside_35 (by decide) ?_
    exact Wq.iret dX1_mayMeetOutside_36 (⟨_, rfl, by decide⟩) h
  · replace h := h.2 q1
    refine Wq.iload_n (x := x2) dX1_mayMeetOutside_10 rfl ?_
    refine Wq.iload_n (x := x3) dX1_mayMeetOutside_11 rfl ?_
    refine Wq.callSI (As := [pI x2, pI x3]) dX1_mayMeetOutside_12 fX1_isInGroup ml_X1_175 rfl (Nat.le_of_ble_eq_true rfl) (Nat.le_of_ble_eq_true rfl) (suX1_isInGroup trivial) (fun x5 m9 e9 => ?_)
    obtain ⟨rfl, rfl⟩ := e9
    refine Wq.ifne (tgt := 29) dX1_mayMeetOutside_15 (by decide) (fun q2 => ?_) (fun q2 => ?_)
    · replace h := h.1 (bI_1 q2)
      refine Wq.iinc (x := x3) (ls2 := [some (pO 0 r 0), some (pI x1), some (pI x2), some (pI (x3 + 1))]) dX1_mayMeetOutside_29 rfl (by decide) rfl ?_
      refine Wq.goto (tgt := 2) dX1_mayMeetOutside_32 (by decide) ?_
      exact h
    · replace h := h.2 (bI_0 q2)
      refine Wq.aload_n (t := 0) (r := r) (j := 0) dX1_mayMeetOutside_18 rfl ?_
      refine Wq.iload_n (x := x1) dX1_mayMeetOutside_19 rfl ?_
      refine Wq.iload_n (x := x3) dX1_mayMeetOutside_20 rfl ?_
      refine Wq.callVI (As := [pI x1, pI x3]) dX1_mayMeetOutside_21 fX1_mayMeet ml_X1_163 rfl (by decide) rfl (Nat.le_of_ble_eq_true rfl) (Nat.le_of_ble_eq_true rfl) (suX1_mayMeet h.1) (fun x4 m9 e9 => ?_)
      obtain ⟨rfl, rfl⟩ := e9
      replace h := h.2
      refine Wq.ifeq (tgt := 29) dX1_mayMeetOutside_24 (by decide) (fun q3 => ?_) (fun q3 => ?_)
      · replace h := h.1 (bI_0 q3)
        refine Wq.iinc (x := x3) (ls2 := [some (pO 0 r 0), some (pI x1), some (pI x2), some (pI (x3 + 1))]) dX1_mayMeetOutside_29 rfl (by decide) rfl ?_
        refine Wq.goto (tgt := 2) dX1_mayMeetOutside_32 (by decide) ?_
        exact h
      · replace h := h.2 (bI_1 q3)
        refine Wq.iconst (v := 1) dX1_mayMeetOutside_27 (by decide) ?_
        exact Wq.iret dX1_mayMeetOutside_28 (⟨_, rfl, by decide⟩) h
set_option maxHeartbeats 4000000 in
set_option maxRecDepth 20000 in
theorem sgX1_examinerProperty {g : GG} {d : Nat} {c n : Nat} {m : PM} {Q : Ou → PM → Nat → Nat → Prop} {r : Nat} {x1 : Int32} {x2 : Int32} (h : (vp_in x1 4 ∧ ((x2 = 0 → Wp g d MX0_tests 0 [some (pO 5 r (ix x1))] [] m (cI fun r2 m3 => Q (.inl (some (pI r2))) m3 c n)) ∧ (¬ x2 = 0 → ((x2 = 1 → Q (.inl (some (pI (m.1 r 5 (ix x1) 1)))) m c n) ∧ (¬ x2 = 1 → ((x2 = 2 → Wp g d MX1_cellsOfExaminer 0 [some (pO 0 r 0), some (pI x1), some (pI (-1))] [] m (cI fun r6 m7 => Q (.inl (some (pI r6))) m7 c n)) ∧ (¬ x2 = 2 → ((x2 = 3 → Wp g d MX1_cellsOfExaminer 0 [some (pO 0 r 0), some (pI x1), some (pI (-2))] [] m (cI fun r9 m10 => Q (.inl (some (pI r9))) m10 c n)) ∧ (¬ x2 = 3 → ((x2 = 4 → Q (.inl (some (pI (m.1 r 5 (ix x1) 2)))) m c n) ∧ (¬ x2 = 4 → (vp_in (x2 - 5) 4 ∧ Q (.inl (some (pI (m.1 r 6 (ix x1) (ix (x2 - 5)))))) m c n))))))))))))) : Wq g (d + 1) MX1_examinerProperty c n 0 [some (pO 0 r 0), some (pI x1), some (pI x2)] [] m Q := by
  refine Wq.few (ls' := [some (pO 0 r 0), some (pI x1), some (pI x2), none]) ⟨rfl, ⟨rfl, ⟨rfl, trivial⟩⟩⟩ ?_
  refine Wq.aload_n (t := 0) (r := r) (j := 0) dX1_examinerProperty_0 rfl ?_
  refine Wq.getf (v := pO 8 r 0) dX1_examinerProperty_1 fl_X1_45 ⟨rfl, rfl, by decide⟩ rfl ?_
  refine Wq.iload_n (x := x1) dX1_examinerProperty_4 rfl ?_
  refine Wq.aaldE dX1_examinerProperty_5 h.1 ?_
  replace h := h.2
  refine Wq.astore_n (ls2 := [some (pO 0 r 0), some (pI x1), some (pI x2), some (pO 5 r (ix x1))]) dX1_examinerProperty_6 (by decide) rfl ?_
  refine Wq.iload_n (x := x2) dX1_examinerProperty_7 rfl ?_
  by_cases q1 : x2 = 0
  · replace h := h.1 q1
    refine Wq.tableIn (tgt := 44) dX1_examinerProperty_8 (by rw [q1]; decide) (by rw [q1]; decide) (by rw [q1]; rfl) (by decide) ?_
    refine Wq.aload_n (t := 5) (r := r) (j := (ix x1)) dX1_examinerProperty_44 rfl ?_
    refine Wq.callVI (As := []) dX1_examinerProperty_45 fX0_tests ml_X1_181 rfl (by decide) rfl (Nat.le_of_ble_eq_true rfl) (Nat.le_of_ble_eq_true rfl) h (fun r2 m3 h => ?_)
    exact Wq.iret dX1_examinerProperty_48 (⟨_, rfl, rfl⟩) h
  · replace h := h.2 q1
    by_cases q4 : x2 = 1
    · replace h := h.1 q4
      refine Wq.tableIn (tgt := 49) dX1_examinerProperty_8 (by rw [q4]; decide) (by rw [q4]; decide) (by rw [q4]; rfl) (by decide) ?_
      refine Wq.aload_n (t := 5) (r := r) (j := (ix x1)) dX1_examinerProperty_49 rfl ?_
      refine Wq.getf (v := pI (m.1 r 5 (ix x1) 1)) dX1_examinerProperty_50 fl_X1_135 ⟨rfl, rfl, by decide⟩ rfl ?_
      exact Wq.iret dX1_examinerProperty_53 (⟨_, rfl, rfl⟩) h
    · replace h := h.2 q4
      by_cases q5 : x2 = 2
      · replace h := h.1 q5
        refine Wq.tableIn (tgt := 54) dX1_examinerProperty_8 (by rw [q5]; decide) (by rw [q5]; decide) (by rw [q5]; rfl) (by decide) ?_
        refine Wq.aload_n (t := 0) (r := r) (j := 0) dX1_examinerProperty_54 rfl ?_
        refine Wq.iload_n (x := x1) dX1_examinerProperty_55 rfl ?_
        refine Wq.iconst (v := (-1)) dX1_examinerProperty_56 (by decide) ?_
        refine Wq.callVI (As := [pI x1, pI (-1)]) dX1_examinerProperty_57 fX1_cellsOfExaminer ml_X1_185 rfl (by decide) rfl (Nat.le_of_ble_eq_true rfl) (Nat.le_of_ble_eq_true rfl) h (fun r6 m7 h => ?_)
        exact Wq.iret dX1_examinerProperty_60 (⟨_, rfl, rfl⟩) h
      · replace h := h.2 q5
        by_cases q8 : x2 = 3
        · replace h := h.1 q8
          refine Wq.tableIn (tgt := 61) dX1_examinerProperty_8 (by rw [q8]; decide) (by rw [q8]; decide) (by rw [q8]; rfl) (by decide) ?_
          refine Wq.aload_n (t := 0) (r := r) (j := 0) dX1_examinerProperty_61 rfl ?_
          refine Wq.iload_n (x := x1) dX1_examinerProperty_62 rfl ?_
          refine Wq.bipush (v := (-2)) dX1_examinerProperty_63 (by decide) ?_
          refine Wq.callVI (As := [pI x1, pI (-2)]) dX1_examinerProperty_65 fX1_cellsOfExaminer ml_X1_185 rfl (by decide) rfl (Nat.le_of_ble_eq_true rfl) (Nat.le_of_ble_eq_true rfl) h (fun r9 m10 h => ?_)
          exact Wq.iret dX1_examinerProperty_68 (⟨_, rfl, rfl⟩) h
        · replace h := h.2 q8
          by_cases q11 : x2 = 4
          · replace h := h.1 q11
            refine Wq.tableIn (tgt := 69) dX1_examinerProperty_8 (by rw [q11]; decide) (by rw [q11]; decide) (by rw [q11]; rfl) (by decide) ?_
            refine Wq.aload_n (t := 5) (r := r) (j := (ix x1)) dX1_examinerProperty_69 rfl ?_
            refine Wq.getf (v := pI (m.1 r 5 (ix x1) 2)) dX1_examinerProperty_70 fl_X1_117 ⟨rfl, rfl, by decide⟩ rfl ?_
            exact Wq.iret dX1_examinerProperty_73 (⟨_, rfl, rfl⟩) h
          · replace h := h.2 q11
            refine Wq.tableOut (tgt := 74) dX1_examinerProperty_8 (sw_out5 q1 q4 q5 q8 q11) (by decide) ?_
            refine Wq.aload_n (t := 5) (r := r) (j := (ix x1)) dX1_examinerProperty_74 rfl ?_
            refine Wq.getf (v := pO 6 r (ix x1)) dX1_examinerProperty_75 fl_X1_126 ⟨rfl, rfl, by decide⟩ rfl ?_
            refine Wq.iload_n (x := x2) dX1_examinerProperty_78 rfl ?_
            refine Wq.iconst (v := 5) dX1_examinerProperty_79 (by decide) ?_
            refine Wq.isub dX1_examinerProperty_80 ?_
            refine Wq.iald dX1_examinerProperty_81 rfl h.1 ?_
            replace h := h.2
            exact Wq.iret dX1_examinerProperty_82 (⟨_, rfl, rfl⟩) h
set_option maxHeartbeats 4000000 in
set_option maxRecDepth 20000 in
theorem sgX1_testsSoFar {g : GG} {d : Nat} {c n : Nat} {m : PM} {Q : Ou → PM → Nat → Nat → Prop} {r : Nat} (h : Wq g (d + 1) MX1_testsSoFar c n 4 [some (pO 0 r 0), some (pI 0), some (pI 0)] [] m Q) : Wq g (d + 1) MX1_testsSoFar c n 0 [some (pO 0 r 0)] [] m Q := by
  refine Wq.few (ls' := [some (pO 0 r 0), none, none]) ⟨rfl, trivial⟩ ?_
  refine Wq.iconst (v := 0) dX1_testsSoFar_0 (by decide) ?_
  refine Wq.istore_n (ls2 := [some (pO 0 r 0), some (pI 0), none]) dX1_testsSoFar_1 (by decide) rfl ?_
  refine Wq.iconst (v := 0) dX1_testsSoFar_2 (by decide) ?_
  refine Wq.istore_n (ls2 := [some (pO 0 r 0), some (pI 0), some (pI 0)]) dX1_testsSoFar_3 (by decide) rfl ?_
  exact h
set_option maxHeartbeats 4000000 in
set_option maxRecDepth 20000 in
theorem sgX1_testsSoFar_4 {g : GG} {d : Nat} {c n : Nat} {m : PM} {Q : Ou → PM → Nat → Nat → Prop} {r : Nat} {x1 : Int32} {x2 : Int32} (h : (((m.1 r 0 0 1) ≤ x2 → Q (.inl (some (pI x1))) m c n) ∧ (¬ (m.1 r 0 0 1) ≤ x2 → (vp_in x2 4 ∧ Wp g d MX0_tests 0 [some (pO 5 r (ix x2))] [] m (cI fun r2 m3 => Wq g (d + 1) MX1_testsSoFar c n 4 [some (pO 0 r 0), some (pI (x1 + r2)), some (pI (x2 + 1))] [] m3 Q))))) : Wq g (d + 1) MX1_testsSoFar c n 4 [some (pO 0 r 0), some (pI x1), some (pI x2)] [] m Q := by
  refine Wq.iload_n (x := x2) dX1_testsSoFar_4 rfl ?_
  refine Wq.aload_n (t := 0) (r := r) (j := 0) dX1_testsSoFar_5 rfl ?_
  refine Wq.getf (v := pI (m.1 r 0 0 1)) dX1_testsSoFar_6 fl_X1_15 ⟨rfl, rfl, by decide⟩ rfl ?_
  refine Wq.icmpge (tgt := 30) dX1_testsSoFar_9 (by decide) (fun q1 => ?_) (fun q1 => ?_)
  · replace h := h.1 q1
    refine Wq.iload_n (x := x1) dX1_testsSoFar_30 rfl ?_
    exact Wq.iret dX1_testsSoFar_31 (⟨_, rfl, rfl⟩) h
  · replace h := h.2 q1
    refine Wq.iload_n (x := x1) dX1_testsSoFar_12 rfl ?_
    refine Wq.aload_n (t := 0) (r := r) (j := 0) dX1_testsSoFar_13 rfl ?_
    refine Wq.getf (v := pO 8 r 0) dX1_testsSoFar_14 fl_X1_45 ⟨rfl, rfl, by decide⟩ rfl ?_
    refine Wq.iload_n (x := x2) dX1_testsSoFar_17 rfl ?_
    refine Wq.aaldE dX1_testsSoFar_18 h.1 ?_
    replace h := h.2
    refine Wq.callVI (As := []) dX1_testsSoFar_19 fX0_tests ml_X1_181 rfl (by decide) rfl (Nat.le_of_ble_eq_true rfl) (Nat.le_of_ble_eq_true rfl) h (fun r2 m3 h => ?_)
    refine Wq.iadd dX1_testsSoFar_22 ?_
    refine Wq.istore_n (ls2 := [some (pO 0 r 0), some (pI (x1 + r2)), some (pI x2)]) dX1_testsSoFar_23 (by decide) rfl ?_
    refine Wq.iinc (x := x2) (ls2 := [some (pO 0 r 0), some (pI (x1 + r2)), some (pI (x2 + 1))]) dX1_testsSoFar_24 rfl (by decide) rfl ?_
    refine Wq.goto (tgt := 4) dX1_testsSoFar_27 (by decide) ?_
    exact h
set_option maxHeartbeats 4000000 in
set_option maxRecDepth 20000 in
theorem sgX1_freeSlots {g : GG} {d : Nat} {c n : Nat} {m : PM} {Q : Ou → PM → Nat → Nat → Prop} {r : Nat} (h : Wq g (d + 1) MX1_freeSlots c n 4 [some (pO 0 r 0), some (pI 0), some (pI 0)] [] m Q) : Wq g (d + 1) MX1_freeSlots c n 0 [some (pO 0 r 0)] [] m Q := by
  refine Wq.few (ls' := [some (pO 0 r 0), none, none]) ⟨rfl, trivial⟩ ?_
  refine Wq.iconst (v := 0) dX1_freeSlots_0 (by decide) ?_
  refine Wq.istore_n (ls2 := [some (pO 0 r 0), some (pI 0), none]) dX1_freeSlots_1 (by decide) rfl ?_
  refine Wq.iconst (v := 0) dX1_freeSlots_2 (by decide) ?_
  refine Wq.istore_n (ls2 := [some (pO 0 r 0), some (pI 0), some (pI 0)]) dX1_freeSlots_3 (by decide) rfl ?_
  exact h
set_option maxHeartbeats 4000000 in
set_option maxRecDepth 20000 in
theorem sgX1_freeSlots_4 {g : GG} {d : Nat} {c n : Nat} {m : PM} {Q : Ou → PM → Nat → Nat → Prop} {r : Nat} {x1 : Int32} {x2 : Int32} (h : (((m.1 r 0 0 1) ≤ x2 → Q (.inl (some (pI x1))) m c n) ∧ (¬ (m.1 r 0 0 1) ≤ x2 → Wp g d MX1_cellsOfExaminer 0 [some (pO 0 r 0), some (pI x2), some (pI (-1))] [] m (cI fun r2 m3 => Wq g (d + 1) MX1_freeSlots c n 4 [some (pO 0 r 0), some (pI (x1 + r2)), some (pI (x2 + 1))] [] m3 Q)))) : Wq g (d + 1) MX1_freeSlots c n 4 [some (pO 0 r 0), some (pI x1), some (pI x2)] [] m Q := by
  refine Wq.iload_n (x := x2) dX1_freeSlots_4 rfl ?_
  refine Wq.aload_n (t := 0) (r := r) (j := 0) dX1_freeSlots_5 rfl ?_
  refine Wq.getf (v := pI (m.1 r 0 0 1)) dX1_freeSlots_6 fl_X1_15 ⟨rfl, rfl, by decide⟩ rfl ?_
  refine Wq.icmpge (tgt := 27) dX1_freeSlots_9 (by decide) (fun q1 => ?_) (fun q1 => ?_)
  · replace h := h.1 q1
    refine Wq.iload_n (x := x1) dX1_freeSlots_27 rfl ?_
    exact Wq.iret dX1_freeSlots_28 (⟨_, rfl, rfl⟩) h
  · replace h := h.2 q1
    refine Wq.iload_n (x := x1) dX1_freeSlots_12 rfl ?_
    refine Wq.aload_n (t := 0) (r := r) (j := 0) dX1_freeSlots_13 rfl ?_
    refine Wq.iload_n (x := x2) dX1_freeSlots_14 rfl ?_
    refine Wq.iconst (v := (-1)) dX1_freeSlots_15 (by decide) ?_
    refine Wq.callVI (As := [pI x2, pI (-1)]) dX1_freeSlots_16 fX1_cellsOfExaminer ml_X1_185 rfl (by decide) rfl (Nat.le_of_ble_eq_true rfl) (Nat.le_of_ble_eq_true rfl) h (fun r2 m3 h => ?_)
    refine Wq.iadd dX1_freeSlots_19 ?_
    refine Wq.istore_n (ls2 := [some (pO 0 r 0), some (pI (x1 + r2)), some (pI x2)]) dX1_freeSlots_20 (by decide) rfl ?_
    refine Wq.iinc (x := x2) (ls2 := [some (pO 0 r 0), some (pI (x1 + r2)), some (pI (x2 + 1))]) dX1_freeSlots_21 rfl (by decide) rfl ?_
    refine Wq.goto (tgt := 4) dX1_freeSlots_24 (by decide) ?_
    exact h
set_option maxHeartbeats 4000000 in
set_option maxRecDepth 20000 in
theorem sgX1_daysToAllSlots {g : GG} {d : Nat} {c n : Nat} {m : PM} {Q : Ou → PM → Nat → Nat → Prop} {r : Nat} (h : Wq g (d + 1) MX1_daysToAllSlots c n 4 [some (pO 0 r 0), some (pI 0), some (pI 0)] [] m Q) : Wq g (d + 1) MX1_daysToAllSlots c n 0 [some (pO 0 r 0)] [] m Q := by
  refine Wq.few (ls' := [some (pO 0 r 0), none, none]) ⟨rfl, trivial⟩ ?_
  refine Wq.iconst (v := 0) dX1_daysToAllSlots_0 (by decide) ?_
  refine Wq.istore_n (ls2 := [some (pO 0 r 0), some (pI 0), none]) dX1_daysToAllSlots_1 (by decide) rfl ?_
  refine Wq.iconst (v := 0) dX1_daysToAllSlots_2 (by decide) ?_
  refine Wq.istore_n (ls2 := [some (pO 0 r 0), some (pI 0), some (pI 0)]) dX1_daysToAllSlots_3 (by decide) rfl ?_
  exact h
set_option maxHeartbeats 4000000 in
set_option maxRecDepth 20000 in
theorem sgX1_daysToAllSlots_4 {g : GG} {d : Nat} {c n : Nat} {m : PM} {Q : Ou → PM → Nat → Nat → Prop} {r : Nat} {x1 : Int32} {x2 : Int32} (h : ((160 ≤ x2 → Q (.inl (some (pI x1))) m c n) ∧ (¬ 160 ≤ x2 → (vp_in x2 160 ∧ ((¬ ((¬ (m.1 r 2 0 (ix x2)) < 0) ∧ (¬ (m.1 r 0 0 2) ≤ (m.1 r 2 0 (ix x2)))) → Wq g (d + 1) MX1_daysToAllSlots c n 4 [some (pO 0 r 0), some (pI x1), some (pI (x2 + 1))] [] m Q) ∧ ((¬ (m.1 r 2 0 (ix x2)) < 0) ∧ (¬ (m.1 r 0 0 2) ≤ (m.1 r 2 0 (ix x2))) → Wq g (d + 1) MX1_daysToAllSlots c n 4 [some (pO 0 r 0), some (pI (x1 + (x2 / 16))), some (pI (x2 + 1))] [] m Q)))))) : Wq g (d + 1) MX1_daysToAllSlots c n 4 [some (pO 0 r 0), some (pI x1), some (pI x2)] [] m Q := by
  refine Wq.iload_n (x := x2) dX1_daysToAllSlots_4 rfl ?_
  refine Wq.aload_n (t := 0) (r := r) (j := 0) dX1_daysToAllSlots_5 rfl ?_
  refine Wq.getf (v := pO 2 r 0) dX1_daysToAllSlots_6 fl_X1_34 ⟨rfl, rfl, by decide⟩ rfl ?_
  refine Wq.alen (v := 160) dX1_daysToAllSlots_9 rfl (by decide) rfl ?_
  refine Wq.icmpge (tgt := 39) dX1_daysToAllSlots_10 (by decide) (fun q1 => ?_) (fun q1 => ?_)
  · replace h := h.1 q1
    refine Wq.iload_n (x := x1) dX1_daysToAllSlots_39 rfl ?_
    exact Wq.iret dX1_daysToAllSlots_40 (⟨_, rfl, rfl⟩) h
  · replace h := h.2 q1
    refine Wq.aload_n (t := 0) (r := r) (j := 0) dX1_daysToAllSlots_13 rfl ?_
    refine Wq.aload_n (t := 0) (r := r) (j := 0) dX1_daysToAllSlots_14 rfl ?_
    refine Wq.getf (v := pO 2 r 0) dX1_daysToAllSlots_15 fl_X1_34 ⟨rfl, rfl, by decide⟩ rfl ?_
    refine Wq.iload_n (x := x2) dX1_daysToAllSlots_18 rfl ?_
    refine Wq.iald dX1_daysToAllSlots_19 rfl h.1 ?_
    replace h := h.2
    refine Wq.callVI (As := [pI (m.1 r 2 0 (ix x2))]) dX1_daysToAllSlots_20 fX1_hasPupil ml_X1_110 rfl (by decide) rfl (Nat.le_of_ble_eq_true rfl) (Nat.le_of_ble_eq_true rfl) (suX1_hasPupil trivial) (fun x4 m9 e9 => ?_)
    obtain ⟨rfl, rfl⟩ := e9
    refine Wq.ifeq (tgt := 33) dX1_daysToAllSlots_23 (by decide) (fun q2 => ?_) (fun q2 => ?_)
    · replace h := h.1 (bI_0 q2)
      refine Wq.iinc (x := x2) (ls2 := [some (pO 0 r 0), some (pI x1), some (pI (x2 + 1))]) dX1_daysToAllSlots_33 rfl (by decide) rfl ?_
      refine Wq.goto (tgt := 4) dX1_daysToAllSlots_36 (by decide) ?_
      exact h
    · replace h := h.2 (bI_1 q2)
      refine Wq.iload_n (x := x1) dX1_daysToAllSlots_26 rfl ?_
      refine Wq.iload_n (x := x2) dX1_daysToAllSlots_27 rfl ?_
      refine Wq.callNI (As := [pI x2]) dX1_daysToAllSlots_28 fX4_daysTo nl_X1_103 rfl (Nat.le_of_ble_eq_true rfl) (Nat.le_of_ble_eq_true rfl) (suX4_daysTo trivial) (fun x3 m9 e9 => ?_)
      obtain ⟨rfl, rfl⟩ := e9
      refine Wq.iadd dX1_daysToAllSlots_31 ?_
      refine Wq.istore_n (ls2 := [some (pO 0 r 0), some (pI (x1 + (x2 / 16))), some (pI x2)]) dX1_daysToAllSlots_32 (by decide) rfl ?_
      refine Wq.iinc (x := x2) (ls2 := [some (pO 0 r 0), some (pI (x1 + (x2 / 16))), some (pI (x2 + 1))]) dX1_daysToAllSlots_33 rfl (by decide) rfl ?_
      refine Wq.goto (tgt := 4) dX1_daysToAllSlots_36 (by decide) ?_
      exact h
set_option maxHeartbeats 4000000 in
set_option maxRecDepth 20000 in
theorem sgX1_copyFrom {g : GG} {d : Nat} {c n : Nat} {m : PM} {Q : Ou → PM → Nat → Nat → Prop} {r : Nat} {r1 : Nat} (h : Wq g (d + 2) MX1_copyFrom c n 78 [some (pO 0 r 0), some (pO 0 r1 0), some (pI 0)] [] (setR (setR (setI (setI (setI (setI (setI m 0 r 0 0 (m.1 r1 0 0 0)) 0 r 0 1 ((setI m 0 r 0 0 (m.1 r1 0 0 0)).1 r1 0 0 1)) 0 r 0 2 ((setI (setI m 0 r 0 0 (m.1 r1 0 0 0)) 0 r 0 1 ((setI m 0 r 0 0 (m.1 r1 0 0 0)).1 r1 0 0 1)).1 r1 0 0 2)) 0 r 0 3 ((setI (setI (setI m 0 r 0 0 (m.1 r1 0 0 0)) 0 r 0 1 ((setI m 0 r 0 0 (m.1 r1 0 0 0)).1 r1 0 0 1)) 0 r 0 2 ((setI (setI m 0 r 0 0 (m.1 r1 0 0 0)) 0 r 0 1 ((setI m 0 r 0 0 (m.1 r1 0 0 0)).1 r1 0 0 1)).1 r1 0 0 2)).1 r1 0 0 3)) 0 r 0 4 ((setI (setI (setI (setI m 0 r 0 0 (m.1 r1 0 0 0)) 0 r 0 1 ((setI m 0 r 0 0 (m.1 r1 0 0 0)).1 r1 0 0 1)) 0 r 0 2 ((setI (setI m 0 r 0 0 (m.1 r1 0 0 0)) 0 r 0 1 ((setI m 0 r 0 0 (m.1 r1 0 0 0)).1 r1 0 0 1)).1 r1 0 0 2)) 0 r 0 3 ((setI (setI (setI m 0 r 0 0 (m.1 r1 0 0 0)) 0 r 0 1 ((setI m 0 r 0 0 (m.1 r1 0 0 0)).1 r1 0 0 1)) 0 r 0 2 ((setI (setI m 0 r 0 0 (m.1 r1 0 0 0)) 0 r 0 1 ((setI m 0 r 0 0 (m.1 r1 0 0 0)).1 r1 0 0 1)).1 r1 0 0 2)).1 r1 0 0 3)).1 r1 0 0 4)) 1 r 0 (va_cpy ((setI (setI (setI (setI (setI m 0 r 0 0 (m.1 r1 0 0 0)) 0 r 0 1 ((setI m 0 r 0 0 (m.1 r1 0 0 0)).1 r1 0 0 1)) 0 r 0 2 ((setI (setI m 0 r 0 0 (m.1 r1 0 0 0)) 0 r 0 1 ((setI m 0 r 0 0 (m.1 r1 0 0 0)).1 r1 0 0 1)).1 r1 0 0 2)) 0 r 0 3 ((setI (setI (setI m 0 r 0 0 (m.1 r1 0 0 0)) 0 r 0 1 ((setI m 0 r 0 0 (m.1 r1 0 0 0)).1 r1 0 0 1)) 0 r 0 2 ((setI (setI m 0 r 0 0 (m.1 r1 0 0 0)) 0 r 0 1 ((setI m 0 r 0 0 (m.1 r1 0 0 0)).1 r1 0 0 1)).1 r1 0 0 2)).1 r1 0 0 3)) 0 r 0 4 ((setI (setI (setI (setI m 0 r 0 0 (m.1 r1 0 0 0)) 0 r 0 1 ((setI m 0 r 0 0 (m.1 r1 0 0 0)).1 r1 0 0 1)) 0 r 0 2 ((setI (setI m 0 r 0 0 (m.1 r1 0 0 0)) 0 r 0 1 ((setI m 0 r 0 0 (m.1 r1 0 0 0)).1 r1 0 0 1)).1 r1 0 0 2)) 0 r 0 3 ((setI (setI (setI m 0 r 0 0 (m.1 r1 0 0 0)) 0 r 0 1 ((setI m 0 r 0 0 (m.1 r1 0 0 0)).1 r1 0 0 1)) 0 r 0 2 ((setI (setI m 0 r 0 0 (m.1 r1 0 0 0)) 0 r 0 1 ((setI m 0 r 0 0 (m.1 r1 0 0 0)).1 r1 0 0 1)).1 r1 0 0 2)).1 r1 0 0 3)).1 r1 0 0 4)).1 r1 1 0) ((setI (setI (setI (setI (setI m 0 r 0 0 (m.1 r1 0 0 0)) 0 r 0 1 ((setI m 0 r 0 0 (m.1 r1 0 0 0)).1 r1 0 0 1)) 0 r 0 2 ((setI (setI m 0 r 0 0 (m.1 r1 0 0 0)) 0 r 0 1 ((setI m 0 r 0 0 (m.1 r1 0 0 0)).1 r1 0 0 1)).1 r1 0 0 2)) 0 r 0 3 ((setI (setI (setI m 0 r 0 0 (m.1 r1 0 0 0)) 0 r 0 1 ((setI m 0 r 0 0 (m.1 r1 0 0 0)).1 r1 0 0 1)) 0 r 0 2 ((setI (setI m 0 r 0 0 (m.1 r1 0 0 0)) 0 r 0 1 ((setI m 0 r 0 0 (m.1 r1 0 0 0)).1 r1 0 0 1)).1 r1 0 0 2)).1 r1 0 0 3)) 0 r 0 4 ((setI (setI (setI (setI m 0 r 0 0 (m.1 r1 0 0 0)) 0 r 0 1 ((setI m 0 r 0 0 (m.1 r1 0 0 0)).1 r1 0 0 1)) 0 r 0 2 ((setI (setI m 0 r 0 0 (m.1 r1 0 0 0)) 0 r 0 1 ((setI m 0 r 0 0 (m.1 r1 0 0 0)).1 r1 0 0 1)).1 r1 0 0 2)) 0 r 0 3 ((setI (setI (setI m 0 r 0 0 (m.1 r1 0 0 0)) 0 r 0 1 ((setI m 0 r 0 0 (m.1 r1 0 0 0)).1 r1 0 0 1)) 0 r 0 2 ((setI (setI m 0 r 0 0 (m.1 r1 0 0 0)) 0 r 0 1 ((setI m 0 r 0 0 (m.1 r1 0 0 0)).1 r1 0 0 1)).1 r1 0 0 2)).1 r1 0 0 3)).1 r1 0 0 4)).1 r 1 0) (ix 0) (ix 0) (ix 4))) 2 r 0 (va_cpy ((setR (setI (setI (setI (setI (setI m 0 r 0 0 (m.1 r1 0 0 0)) 0 r 0 1 ((setI m 0 r 0 0 (m.1 r1 0 0 0)).1 r1 0 0 1)) 0 r 0 2 ((setI (setI m 0 r 0 0 (m.1 r1 0 0 0)) 0 r 0 1 ((setI m 0 r 0 0 (m.1 r1 0 0 0)).1 r1 0 0 1)).1 r1 0 0 2)) 0 r 0 3 ((setI (setI (setI m 0 r 0 0 (m.1 r1 0 0 0)) 0 r 0 1 ((setI m 0 r 0 0 (m.1 r1 0 0 0)).1 r1 0 0 1)) 0 r 0 2 ((setI (setI m 0 r 0 0 (m.1 r1 0 0 0)) 0 r 0 1 ((setI m 0 r 0 0 (m.1 r1 0 0 0)).1 r1 0 0 1)).1 r1 0 0 2)).1 r1 0 0 3)) 0 r 0 4 ((setI (setI (setI (setI m 0 r 0 0 (m.1 r1 0 0 0)) 0 r 0 1 ((setI m 0 r 0 0 (m.1 r1 0 0 0)).1 r1 0 0 1)) 0 r 0 2 ((setI (setI m 0 r 0 0 (m.1 r1 0 0 0)) 0 r 0 1 ((setI m 0 r 0 0 (m.1 r1 0 0 0)).1 r1 0 0 1)).1 r1 0 0 2)) 0 r 0 3 ((setI (setI (setI m 0 r 0 0 (m.1 r1 0 0 0)) 0 r 0 1 ((setI m 0 r 0 0 (m.1 r1 0 0 0)).1 r1 0 0 1)) 0 r 0 2 ((setI (setI m 0 r 0 0 (m.1 r1 0 0 0)) 0 r 0 1 ((setI m 0 r 0 0 (m.1 r1 0 0 0)).1 r1 0 0 1)).1 r1 0 0 2)).1 r1 0 0 3)).1 r1 0 0 4)) 1 r 0 (va_cpy ((setI (setI (setI (setI (setI m 0 r 0 0 (m.1 r1 0 0 0)) 0 r 0 1 ((setI m 0 r 0 0 (m.1 r1 0 0 0)).1 r1 0 0 1)) 0 r 0 2 ((setI (setI m 0 r 0 0 (m.1 r1 0 0 0)) 0 r 0 1 ((setI m 0 r 0 0 (m.1 r1 0 0 0)).1 r1 0 0 1)).1 r1 0 0 2)) 0 r 0 3 ((setI (setI (setI m 0 r 0 0 (m.1 r1 0 0 0)) 0 r 0 1 ((setI m 0 r 0 0 (m.1 r1 0 0 0)).1 r1 0 0 1)) 0 r 0 2 ((setI (setI m 0 r 0 0 (m.1 r1 0 0 0)) 0 r 0 1 ((setI m 0 r 0 0 (m.1 r1 0 0 0)).1 r1 0 0 1)).1 r1 0 0 2)).1 r1 0 0 3)) 0 r 0 4 ((setI (setI (setI (setI m 0 r 0 0 (m.1 r1 0 0 0)) 0 r 0 1 ((setI m 0 r 0 0 (m.1 r1 0 0 0)).1 r1 0 0 1)) 0 r 0 2 ((setI (setI m 0 r 0 0 (m.1 r1 0 0 0)) 0 r 0 1 ((setI m 0 r 0 0 (m.1 r1 0 0 0)).1 r1 0 0 1)).1 r1 0 0 2)) 0 r 0 3 ((setI (setI (setI m 0 r 0 0 (m.1 r1 0 0 0)) 0 r 0 1 ((setI m 0 r 0 0 (m.1 r1 0 0 0)).1 r1 0 0 1)) 0 r 0 2 ((setI (setI m 0 r 0 0 (m.1 r1 0 0 0)) 0 r 0 1 ((setI m 0 r 0 0 (m.1 r1 0 0 0)).1 r1 0 0 1)).1 r1 0 0 2)).1 r1 0 0 3)).1 r1 0 0 4)).1 r1 1 0) ((setI (setI (setI (setI (setI m 0 r 0 0 (m.1 r1 0 0 0)) 0 r 0 1 ((setI m 0 r 0 0 (m.1 r1 0 0 0)).1 r1 0 0 1)) 0 r 0 2 ((setI (setI m 0 r 0 0 (m.1 r1 0 0 0)) 0 r 0 1 ((setI m 0 r 0 0 (m.1 r1 0 0 0)).1 r1 0 0 1)).1 r1 0 0 2)) 0 r 0 3 ((setI (setI (setI m 0 r 0 0 (m.1 r1 0 0 0)) 0 r 0 1 ((setI m 0 r 0 0 (m.1 r1 0 0 0)).1 r1 0 0 1)) 0 r 0 2 ((setI (setI m 0 r 0 0 (m.1 r1 0 0 0)) 0 r 0 1 ((setI m 0 r 0 0 (m.1 r1 0 0 0)).1 r1 0 0 1)).1 r1 0 0 2)).1 r1 0 0 3)) 0 r 0 4 ((setI (setI (setI (setI m 0 r 0 0 (m.1 r1 0 0 0)) 0 r 0 1 ((setI m 0 r 0 0 (m.1 r1 0 0 0)).1 r1 0 0 1)) 0 r 0 2 ((setI (setI m 0 r 0 0 (m.1 r1 0 0 0)) 0 r 0 1 ((setI m 0 r 0 0 (m.1 r1 0 0 0)).1 r1 0 0 1)).1 r1 0 0 2)) 0 r 0 3 ((setI (setI (setI m 0 r 0 0 (m.1 r1 0 0 0)) 0 r 0 1 ((setI m 0 r 0 0 (m.1 r1 0 0 0)).1 r1 0 0 1)) 0 r 0 2 ((setI (setI m 0 r 0 0 (m.1 r1 0 0 0)) 0 r 0 1 ((setI m 0 r 0 0 (m.1 r1 0 0 0)).1 r1 0 0 1)).1 r1 0 0 2)).1 r1 0 0 3)).1 r1 0 0 4)).1 r 1 0) (ix 0) (ix 0) (ix 4))).1 r1 2 0) ((setR (setI (setI (setI (setI (setI m 0 r 0 0 (m.1 r1 0 0 0)) 0 r 0 1 ((setI m 0 r 0 0 (m.1 r1 0 0 0)).1 r1 0 0 1)) 0 r 0 2 ((setI (setI m 0 r 0 0 (m.1 r1 0 0 0)) 0 r 0 1 ((setI m 0 r 0 0 (m.1 r1 0 0 0)).1 r1 0 0 1)).1 r1 0 0 2)) 0 r 0 3 ((setI (setI (setI m 0 r 0 0 (m.1 r1 0 0 0)) 0 r 0 1 ((setI m 0 r 0 0 (m.1 r1 0 0 0)).1 r1 0 0 1)) 0 r 0 2 ((setI (setI m 0 r 0 0 (m.1 r1 0 0 0)) 0 r 0 1 ((setI m 0 r 0 0 (m.1 r1 0 0 0)).1 r1 0 0 1)).1 r1 0 0 2)).1 r1 0 0 3)) 0 r 0 4 ((setI (setI (setI (setI m 0 r 0 0 (m.1 r1 0 0 0)) 0 r 0 1 ((setI m 0 r 0 0 (m.1 r1 0 0 0)).1 r1 0 0 1)) 0 r 0 2 ((setI (setI m 0 r 0 0 (m.1 r1 0 0 0)) 0 r 0 1 ((setI m 0 r 0 0 (m.1 r1 0 0 0)).1 r1 0 0 1)).1 r1 0 0 2)) 0 r 0 3 ((setI (setI (setI m 0 r 0 0 (m.1 r1 0 0 0)) 0 r 0 1 ((setI m 0 r 0 0 (m.1 r1 0 0 0)).1 r1 0 0 1)) 0 r 0 2 ((setI (setI m 0 r 0 0 (m.1 r1 0 0 0)) 0 r 0 1 ((setI m 0 r 0 0 (m.1 r1 0 0 0)).1 r1 0 0 1)).1 r1 0 0 2)).1 r1 0 0 3)).1 r1 0 0 4)) 1 r 0 (va_cpy ((setI (setI (setI (setI (setI m 0 r 0 0 (m.1 r1 0 0 0)) 0 r 0 1 ((setI m 0 r 0 0 (m.1 r1 0 0 0)).1 r1 0 0 1)) 0 r 0 2 ((setI (setI m 0 r 0 0 (m.1 r1 0 0 0)) 0 r 0 1 ((setI m 0 r 0 0 (m.1 r1 0 0 0)).1 r1 0 0 1)).1 r1 0 0 2)) 0 r 0 3 ((setI (setI (setI m 0 r 0 0 (m.1 r1 0 0 0)) 0 r 0 1 ((setI m 0 r 0 0 (m.1 r1 0 0 0)).1 r1 0 0 1)) 0 r 0 2 ((setI (setI m 0 r 0 0 (m.1 r1 0 0 0)) 0 r 0 1 ((setI m 0 r 0 0 (m.1 r1 0 0 0)).1 r1 0 0 1)).1 r1 0 0 2)).1 r1 0 0 3)) 0 r 0 4 ((setI (setI (setI (setI m 0 r 0 0 (m.1 r1 0 0 0)) 0 r 0 1 ((setI m 0 r 0 0 (m.1 r1 0 0 0)).1 r1 0 0 1)) 0 r 0 2 ((setI (setI m 0 r 0 0 (m.1 r1 0 0 0)) 0 r 0 1 ((setI m 0 r 0 0 (m.1 r1 0 0 0)).1 r1 0 0 1)).1 r1 0 0 2)) 0 r 0 3 ((setI (setI (setI m 0 r 0 0 (m.1 r1 0 0 0)) 0 r 0 1 ((setI m 0 r 0 0 (m.1 r1 0 0 0)).1 r1 0 0 1)) 0 r 0 2 ((setI (setI m 0 r 0 0 (m.1 r1 0 0 0)) 0 r 0 1 ((setI m 0 r 0 0 (m.1 r1 0 0 0)).1 r1 0 0 1)).1 r1 0 0 2)).1 r1 0 0 3)).1 r1 0 0 4)).1 r1 1 0) ((setI (setI (setI (setI (setI m 0 r 0 0 (m.1 r1 0 0 0)) 0 r 0 1 ((setI m 0 r 0 0 (m.1 r1 0 0 0)).1 r1 0 0 1)) 0 r 0 2 ((setI (setI m 0 r 0 0 (m.1 r1 0 0 0)) 0 r 0 1 ((setI m 0 r 0 0 (m.1 r1 0 0 0)).1 r1 0 0 1)).1 r1 0 0 2)) 0 r 0 3 ((setI (setI (setI m 0 r 0 0 (m.1 r1 0 0 0)) 0 r 0 1 ((setI m 0 r 0 0 (m.1 r1 0 0 0)).1 r1 0 0 1)) 0 r 0 2 ((setI (setI m 0 r 0 0 (m.1 r1 0 0 0)) 0 r 0 1 ((setI m 0 r 0 0 (m.1 r1 0 0 0)).1 r1 0 0 1)).1 r1 0 0 2)).1 r1 0 0 3)) 0 r 0 4 ((setI (setI (setI (setI m 0 r 0 0 (m.1 r1 0 0 0)) 0 r 0 1 ((setI m 0 r 0 0 (m.1 r1 0 0 0)).1 r1 0 0 1)) 0 r 0 2 ((setI (setI m 0 r 0 0 (m.1 r1 0 0 0)) 0 r 0 1 ((setI m 0 r 0 0 (m.1 r1 0 0 0)).1 r1 0 0 1)).1 r1 0 0 2)) 0 r 0 3 ((setI (setI (setI m 0 r 0 0 (m.1 r1 0 0 0)) 0 r 0 1 ((setI m 0 r 0 0 (m.1 r1 0 0 0)).1 r1 0 0 1)) 0 r 0 2 ((setI (setI m 0 r 0 0 (m.1 r1 0 0 0)) 0 r 0 1 ((setI m 0 r 0 0 (m.1 r1 0 0 0)).1 r1 0 0 1)).1 r1 0 0 2)).1 r1 0 0 3)).1 r1 0 0 4)).1 r 1 0) (ix 0) (ix 0) (ix 4))).1 r 2 0) (ix 0) (ix 0) (ix 160))) Q) : Wq g (d + 2) MX1_copyFrom c n 0 [some (pO 0 r 0), some (pO 0 r1 0)] [] m Q := by
  refine Wq.few (ls' := [some (pO 0 r 0), some (pO 0 r1 0), none]) ⟨rfl, ⟨rfl, trivial⟩⟩ ?_
  refine Wq.aload_n (t := 0) (r := r) (j := 0) dX1_copyFrom_0 rfl ?_
  refine Wq.aload_n (t := 0) (r := r1) (j := 0) dX1_copyFrom_1 rfl ?_
  refine Wq.getf (v := pI (m.1 r1 0 0 0)) dX1_copyFrom_2 fl_X1_9 ⟨rfl, rfl, by decide⟩ rfl ?_
  refine Wq.putI dX1_copyFrom_5 fw_X1_9 ⟨rfl, rfl, by decide⟩ ⟨rfl, by decide, by decide⟩ ⟨rfl, rfl⟩ ?_
  refine Wq.aload_n (t := 0) (r := r) (j := 0) dX1_copyFrom_8 rfl ?_
  refine Wq.aload_n (t := 0) (r := r1) (j := 0) dX1_copyFrom_9 rfl ?_
  refine Wq.getf (v := pI ((setI m 0 r 0 0 (m.1 r1 0 0 0)).1 r1 0 0 1)) dX1_copyFrom_10 fl_X1_15 ⟨rfl, rfl, by decide⟩ rfl ?_
  refine Wq.putI dX1_copyFrom_13 fw_X1_15 ⟨rfl, rfl, by decide⟩ ⟨rfl, by decide, by decide⟩ ⟨rfl, rfl⟩ ?_
  refine Wq.aload_n (t := 0) (r := r) (j := 0) dX1_copyFrom_16 rfl ?_
  refine Wq.aload_n (t := 0) (r := r1) (j := 0) dX1_copyFrom_17 rfl ?_
  refine Wq.getf (v := pI ((setI (setI m 0 r 0 0 (m.1 r1 0 0 0)) 0 r 0 1 ((setI m 0 r 0 0 (m.1 r1 0 0 0)).1 r1 0 0 1)).1 r1 0 0 2)) dX1_copyFrom_18 fl_X1_18 ⟨rfl, rfl, by decide⟩ rfl ?_
  refine Wq.putI dX1_copyFrom_21 fw_X1_18 ⟨rfl, rfl, by decide⟩ ⟨rfl, by decide, by decide⟩ ⟨rfl, rfl⟩ ?_
  refine Wq.aload_n (t := 0) (r := r) (j := 0) dX1_copyFrom_24 rfl ?_
  refine Wq.aload_n (t := 0) (r := r1) (j := 0) dX1_copyFrom_25 rfl ?_
  refine Wq.getf (v := pI ((setI (setI (setI m 0 r 0 0 (m.1 r1 0 0 0)) 0 r 0 1 ((setI m 0 r 0 0 (m.1 r1 0 0 0)).1 r1 0 0 1)) 0 r 0 2 ((setI (setI m 0 r 0 0 (m.1 r1 0 0 0)) 0 r 0 1 ((setI m 0 r 0 0 (m.1 r1 0 0 0)).1 r1 0 0 1)).1 r1 0 0 2)).1 r1 0 0 3)) dX1_copyFrom_26 fl_X1_21 ⟨rfl, rfl, by decide⟩ rfl ?_
  refine Wq.putI dX1_copyFrom_29 fw_X1_21 ⟨rfl, rfl, by decide⟩ ⟨rfl, by decide, by decide⟩ ⟨rfl, rfl⟩ ?_
  refine Wq.aload_n (t := 0) (r := r) (j := 0) dX1_copyFrom_32 rfl ?_
  refine Wq.aload_n (t := 0) (r := r1) (j := 0) dX1_copyFrom_33 rfl ?_
  refine Wq.getf (v := pI ((setI (setI (setI (setI m 0 r 0 0 (m.1 r1 0 0 0)) 0 r 0 1 ((setI m 0 r 0 0 (m.1 r1 0 0 0)).1 r1 0 0 1)) 0 r 0 2 ((setI (setI m 0 r 0 0 (m.1 r1 0 0 0)) 0 r 0 1 ((setI m 0 r 0 0 (m.1 r1 0 0 0)).1 r1 0 0 1)).1 r1 0 0 2)) 0 r 0 3 ((setI (setI (setI m 0 r 0 0 (m.1 r1 0 0 0)) 0 r 0 1 ((setI m 0 r 0 0 (m.1 r1 0 0 0)).1 r1 0 0 1)) 0 r 0 2 ((setI (setI m 0 r 0 0 (m.1 r1 0 0 0)) 0 r 0 1 ((setI m 0 r 0 0 (m.1 r1 0 0 0)).1 r1 0 0 1)).1 r1 0 0 2)).1 r1 0 0 3)).1 r1 0 0 4)) dX1_copyFrom_34 fl_X1_24 ⟨rfl, rfl, by decide⟩ rfl ?_
  refine Wq.putI dX1_copyFrom_37 fw_X1_24 ⟨rfl, rfl, by decide⟩ ⟨rfl, by decide, by decide⟩ ⟨rfl, rfl⟩ ?_
  refine Wq.aload_n (t := 0) (r := r1) (j := 0) dX1_copyFrom_40 rfl ?_
  refine Wq.getf (v := pO 1 r1 0) dX1_copyFrom_41 fl_X1_31 ⟨rfl, rfl, by decide⟩ rfl ?_
  refine Wq.iconst (v := 0) dX1_copyFrom_44 (by decide) ?_
  refine Wq.aload_n (t := 0) (r := r) (j := 0) dX1_copyFrom_45 rfl ?_
  refine Wq.getf (v := pO 1 r 0) dX1_copyFrom_46 fl_X1_31 ⟨rfl, rfl, by decide⟩ rfl ?_
  refine Wq.iconst (v := 0) dX1_copyFrom_49 (by decide) ?_
  refine Wq.aload_n (t := 0) (r := r) (j := 0) dX1_copyFrom_50 rfl ?_
  refine Wq.getf (v := pO 1 r 0) dX1_copyFrom_51 fl_X1_31 ⟨rfl, rfl, by decide⟩ rfl ?_
  refine Wq.alen (v := 4) dX1_copyFrom_54 rfl (by decide) rfl ?_
  refine Wq.copy dX1_copyFrom_55 ml_X1_52 acw rfl rfl (by decide) (by decide) (by decide) (by decide) (by decide) (Nat.le_of_ble_eq_true rfl) ?_
  refine Wq.aload_n (t := 0) (r := r1) (j := 0) dX1_copyFrom_58 rfl ?_
  refine Wq.getf (v := pO 2 r1 0) dX1_copyFrom_59 fl_X1_34 ⟨rfl, rfl, by decide⟩ rfl ?_
  refine Wq.iconst (v := 0) dX1_copyFrom_62 (by decide) ?_
  refine Wq.aload_n (t := 0) (r := r) (j := 0) dX1_copyFrom_63 rfl ?_
  refine Wq.getf (v := pO 2 r 0) dX1_copyFrom_64 fl_X1_34 ⟨rfl, rfl, by decide⟩ rfl ?_
  refine Wq.iconst (v := 0) dX1_copyFrom_67 (by decide) ?_
  refine Wq.aload_n (t := 0) (r := r) (j := 0) dX1_copyFrom_68 rfl ?_
  refine Wq.getf (v := pO 2 r 0) dX1_copyFrom_69 fl_X1_34 ⟨rfl, rfl, by decide⟩ rfl ?_
  refine Wq.alen (v := 160) dX1_copyFrom_72 rfl (by decide) rfl ?_
  refine Wq.copy dX1_copyFrom_73 ml_X1_52 acw rfl rfl (by decide) (by decide) (by decide) (by decide) (by decide) (Nat.le_of_ble_eq_true rfl) ?_
  refine Wq.iconst (v := 0) dX1_copyFrom_76 (by decide) ?_
  refine Wq.istore_n (ls2 := [some (pO 0 r 0), some (pO 0 r1 0), some (pI 0)]) dX1_copyFrom_77 (by decide) rfl ?_
  exact h
set_option maxHeartbeats 4000000 in
set_option maxRecDepth 20000 in
theorem sgX1_copyFrom_78 {g : GG} {d : Nat} {c n : Nat} {m : PM} {Q : Ou → PM → Nat → Nat → Prop} {r : Nat} {r1 : Nat} {x2 : Int32} (h : ((12 ≤ x2 → Wq g (d + 2) MX1_copyFrom c n 110 [some (pO 0 r 0), some (pO 0 r1 0), some (pI 0)] [] m Q) ∧ (¬ 12 ≤ x2 → (vp_in x2 12 ∧ (vp_in x2 12 ∧ Wq g (d + 2) MX1_copyFrom c n 78 [some (pO 0 r 0), some (pO 0 r1 0), some (pI (x2 + 1))] [] (setI (setI (setI (setI (setI (setI (setI (setI (setI m 4 r (ix x2) 0 (m.1 r1 4 (ix x2) 0)) 4 r (ix x2) 1 ((setI m 4 r (ix x2) 0 (m.1 r1 4 (ix x2) 0)).1 r1 4 (ix x2) 1)) 4 r (ix x2) 2 ((setI (setI m 4 r (ix x2) 0 (m.1 r1 4 (ix x2) 0)) 4 r (ix x2) 1 ((setI m 4 r (ix x2) 0 (m.1 r1 4 (ix x2) 0)).1 r1 4 (ix x2) 1)).1 r1 4 (ix x2) 2)) 4 r (ix x2) 3 ((setI (setI (setI m 4 r (ix x2) 0 (m.1 r1 4 (ix x2) 0)) 4 r (ix x2) 1 ((setI m 4 r (ix x2) 0 (m.1 r1 4 (ix x2) 0)).1 r1 4 (ix x2) 1)) 4 r (ix x2) 2 ((setI (setI m 4 r (ix x2) 0 (m.1 r1 4 (ix x2) 0)) 4 r (ix x2) 1 ((setI m 4 r (ix x2) 0 (m.1 r1 4 (ix x2) 0)).1 r1 4 (ix x2) 1)).1 r1 4 (ix x2) 2)).1 r1 4 (ix x2) 3)) 4 r (ix x2) 4 ((setI (setI (setI (setI m 4 r (ix x2) 0 (m.1 r1 4 (ix x2) 0)) 4 r (ix x2) 1 ((setI m 4 r (ix x2) 0 (m.1 r1 4 (ix x2) 0)).1 r1 4 (ix x2) 1)) 4 r (ix x2) 2 ((setI (setI m 4 r (ix x2) 0 (m.1 r1 4 (ix x2) 0)) 4 r (ix x2) 1 ((setI m 4 r (ix x2) 0 (m.1 r1 4 (ix x2) 0)).1 r1 4 (ix x2) 1)).1 r1 4 (ix x2) 2)) 4 r (ix x2) 3 ((setI (setI (setI m 4 r (ix x2) 0 (m.1 r1 4 (ix x2) 0)) 4 r (ix x2) 1 ((setI m 4 r (ix x2) 0 (m.1 r1 4 (ix x2) 0)).1 r1 4 (ix x2) 1)) 4 r (ix x2) 2 ((setI (setI m 4 r (ix x2) 0 (m.1 r1 4 (ix x2) 0)) 4 r (ix x2) 1 ((setI m 4 r (ix x2) 0 (m.1 r1 4 (ix x2) 0)).1 r1 4 (ix x2) 1)).1 r1 4 (ix x2) 2)).1 r1 4 (ix x2) 3)).1 r1 4 (ix x2) 4)) 4 r (ix x2) 5 ((setI (setI (setI (setI (setI m 4 r (ix x2) 0 (m.1 r1 4 (ix x2) 0)) 4 r (ix x2) 1 ((setI m 4 r (ix x2) 0 (m.1 r1 4 (ix x2) 0)).1 r1 4 (ix x2) 1)) 4 r (ix x2) 2 ((setI (setI m 4 r (ix x2) 0 (m.1 r1 4 (ix x2) 0)) 4 r (ix x2) 1 ((setI m 4 r (ix x2) 0 (m.1 r1 4 (ix x2) 0)).1 r1 4 (ix x2) 1)).1 r1 4 (ix x2) 2)) 4 r (ix x2) 3 ((setI (setI (setI m 4 r (ix x2) 0 (m.1 r1 4 (ix x2) 0)) 4 r (ix x2) 1 ((setI m 4 r (ix x2) 0 (m.1 r1 4 (ix x2) 0)).1 r1 4 (ix x2) 1)) 4 r (ix x2) 2 ((setI (setI m 4 r (ix x2) 0 (m.1 r1 4 (ix x2) 0)) 4 r (ix x2) 1 ((setI m 4 r (ix x2) 0 (m.1 r1 4 (ix x2) 0)).1 r1 4 (ix x2) 1)).1 r1 4 (ix x2) 2)).1 r1 4 (ix x2) 3)) 4 r (ix x2) 4 ((setI (setI (setI (setI m 4 r (ix x2) 0 (m.1 r1 4 (ix x2) 0)) 4 r (ix x2) 1 ((setI m 4 r (ix x2) 0 (m.1 r1 4 (ix x2) 0)).1 r1 4 (ix x2) 1)) 4 r (ix x2) 2 ((setI (setI m 4 r (ix x2) 0 (m.1 r1 4 (ix x2) 0)) 4 r (ix x2) 1 ((setI m 4 r (ix x2) 0 (m.1 r1 4 (ix x2) 0)).1 r1 4 (ix x2) 1)).1 r1 4 (ix x2) 2)) 4 r (ix x2) 3 ((setI (setI (setI m 4 r (ix x2) 0 (m.1 r1 4 (ix x2) 0)) 4 r (ix x2) 1 ((setI m 4 r (ix x2) 0 (m.1 r1 4 (ix x2) 0)).1 r1 4 (ix x2) 1)) 4 r (ix x2) 2 ((setI (setI m 4 r (ix x2) 0 (m.1 r1 4 (ix x2) 0)) 4 r (ix x2) 1 ((setI m 4 r (ix x2) 0 (m.1 r1 4 (ix x2) 0)).1 r1 4 (ix x2) 1)).1 r1 4 (ix x2) 2)).1 r1 4 (ix x2) 3)).1 r1 4 (ix x2) 4)).1 r1 4 (ix x2) 5)) 4 r (ix x2) 6 ((setI (setI (setI (setI (setI (setI m 4 r (ix x2) 0 (m.1 r1 4 (ix x2) 0)) 4 r (ix x2) 1 ((setI m 4 r (ix x2) 0 (m.1 r1 4 (ix x2) 0)).1 r1 4 (ix x2) 1)) 4 r (ix x2) 2 ((setI (setI m 4 r (ix x2) 0 (m.1 r1 4 (ix x2) 0)) 4 r (ix x2) 1 ((setI m 4 r (ix x2) 0 (m.1 r1 4 (ix x2) 0)).1 r1 4 (ix x2) 1)).1 r1 4 (ix x2) 2)) 4 r (ix x2) 3 ((setI (setI (setI m 4 r (ix x2) 0 (m.1 r1 4 (ix x2) 0)) 4 r (ix x2) 1 ((setI m 4 r (ix x2) 0 (m.1 r1 4 (ix x2) 0)).1 r1 4 (ix x2) 1)) 4 r (ix x2) 2 ((setI (setI m 4 r (ix x2) 0 (m.1 r1 4 (ix x2) 0)) 4 r (ix x2) 1 ((setI m 4 r (ix x2) 0 (m.1 r1 4 (ix x2) 0)).1 r1 4 (ix x2) 1)).1 r1 4 (ix x2) 2)).1 r1 4 (ix x2) 3)) 4 r (ix x2) 4 ((setI (setI (setI (setI m 4 r (ix x2) 0 (m.1 r1 4 (ix x2) 0)) 4 r (ix x2) 1 ((setI m 4 r (ix x2) 0 (m.1 r1 4 (ix x2) 0)).1 r1 4 (ix x2) 1)) 4 r (ix x2) 2 ((setI (setI m 4 r (ix x2) 0 (m.1 r1 4 (ix x2) 0)) 4 r (ix x2) 1 ((setI m 4 r (ix x2) 0 (m.1 r1 4 (ix x2) 0)).1 r1 4 (ix x2) 1)).1 r1 4 (ix x2) 2)) 4 r (ix x2) 3 ((setI (setI (setI m 4 r (ix x2) 0 (m.1 r1 4 (ix x2) 0)) 4 r (ix x2) 1 ((setI m 4 r (ix x2) 0 (m.1 r1 4 (ix x2) 0)).1 r1 4 (ix x2) 1)) 4 r (ix x2) 2 ((setI (setI m 4 r (ix x2) 0 (m.1 r1 4 (ix x2) 0)) 4 r (ix x2) 1 ((setI m 4 r (ix x2) 0 (m.1 r1 4 (ix x2) 0)).1 r1 4 (ix x2) 1)).1 r1 4 (ix x2) 2)).1 r1 4 (ix x2) 3)).1 r1 4 (ix x2) 4)) 4 r (ix x2) 5 ((setI (setI (setI (setI (setI m 4 r (ix x2) 0 (m.1 r1 4 (ix x2) 0)) 4 r (ix x2) 1 ((setI m 4 r (ix x2) 0 (m.1 r1 4 (ix x2) 0)).1 r1 4 (ix x2) 1)) 4 r (ix x2) 2 ((setI (setI m 4 r (ix x2) 0 (m.1 r1 4 (ix x2) 0)) 4 r (ix x2) 1 ((setI m 4 r (ix x2) 0 (m.1 r1 4 (ix x2) 0)).1 r1 4 (ix x2) 1)).1 r1 4 (ix x2) 2)) 4 r (ix x2) 3 ((setI (setI (setI m 4 r (ix x2) 0 (m.1 r1 4 (ix x2) 0)) 4 r (ix x2) 1 ((setI m 4 r (ix x2) 0 (m.1 r1 4 (ix x2) 0)).1 r1 4 (ix x2) 1)) 4 r (ix x2) 2 ((setI (setI m 4 r (ix x2) 0 (m.1 r1 4 (ix x2) 0)) 4 r (ix x2) 1 ((setI m 4 r (ix x2) 0 (m.1 r1 4 (ix x2) 0)).1 r1 4 (ix x2) 1)).1 r1 4 (ix x2) 2)).1 r1 4 (ix x2) 3)) 4 r (ix x2) 4 ((setI (setI (setI (setI m 4 r (ix x2) 0 (m.1 r1 4 (ix x2) 0)) 4 r (ix x2) 1 ((setI m 4 r (ix x2) 0 (m.1 r1 4 (ix x2) 0)).1 r1 4 (ix x2) 1)) 4 r (ix x2) 2 ((setI (setI m 4 r (ix x2) 0 (m.1 r1 4 (ix x2) 0)) 4 r (ix x2) 1 ((setI m 4 r (ix x2) 0 (m.1 r1 4 (ix x2) 0)).1 r1 4 (ix x2) 1)).1 r1 4 (ix x2) 2)) 4 r (ix x2) 3 ((setI (setI (setI m 4 r (ix x2) 0 (m.1 r1 4 (ix x2) 0)) 4 r (ix x2) 1 ((setI m 4 r (ix x2) 0 (m.1 r1 4 (ix x2) 0)).1 r1 4 (ix x2) 1)) 4 r (ix x2) 2 ((setI (setI m 4 r (ix x2) 0 (m.1 r1 4 (ix x2) 0)) 4 r (ix x2) 1 ((setI m 4 r (ix x2) 0 (m.1 r1 4 (ix x2) 0)).1 r1 4 (ix x2) 1)).1 r1 4 (ix x2) 2)).1 r1 4 (ix x2) 3)).1 r1 4 (ix x2) 4)).1 r1 4 (ix x2) 5)).1 r1 4 (ix x2) 6)) 4 r (ix x2) 7 ((setI (setI (setI (setI (setI (setI (setI m 4 r (ix x2) 0 (m.1 r1 4 (ix x2) 0)) 4 r (ix x2) 1 ((setI m 4 r (ix x2) 0 (m.1 r1 4 (ix x2) 0)).1 r1 4 (ix x2) 1)) 4 r (ix x2) 2 ((setI (setI m 4 r (ix x2) 0 (m.1 r1 4 (ix x2) 0)) 4 r (ix x2) 1 ((setI m 4 r (ix x2) 0 (m.1 r1 4 (ix x2) 0)).1 r1 4 (ix x2) 1)).1 r1 4 (ix x2) 2)) 4 r (ix x2) 3 ((setI (setI (setI m 4 r (ix x2) 0 (m.1 r1 4 (ix x2) 0)) 4 r (ix x2) 1 ((setI m 4 r (ix x2) 0 (m.1 r1 4 (ix x2) 0)).1 r1 4 (ix x2) 1)) 4 r (ix x2) 2 ((setI (setI m 4 r (ix x2) 0 (m.1 r1 4 (ix x2) 0)) 4 r (ix x2) 1 ((setI m 4 r (ix x2) 0 (m.1 r1 4 (ix x2) 0)).1 r1 4 (ix x2) 1)).1 r1 4 (ix x2) 2)).1 r1 4 (ix x2) 3)) 4 r (ix x2) 4 ((setI (setI (setI (setI m 4 r (ix x2) 0 (m.1 r1 4 (ix x2) 0)) 4 r (ix x2) 1 ((setI m 4 r (ix x2) 0 (m.1 r1 4 (ix x2) 0)).1 r1 4 (ix x2) 1)) 4 r (ix x2) 2 ((setI (setI m 4 r (ix x2) 0 (m.1 r1 4 (ix x2) 0)) 4 r (ix x2) 1 ((setI m 4 r (ix x2) 0 (m.1 r1 4 (ix x2) 0)).1 r1 4 (ix x2) 1)).1 r1 4 (ix x2) 2)) 4 r (ix x2) 3 ((setI (setI (setI m 4 r (ix x2) 0 (m.1 r1 4 (ix x2) 0)) 4 r (ix x2) 1 ((setI m 4 r (ix x2) 0 (m.1 r1 4 (ix x2) 0)).1 r1 4 (ix x2) 1)) 4 r (ix x2) 2 ((setI (setI m 4 r (ix x2) 0 (m.1 r1 4 (ix x2) 0)) 4 r (ix x2) 1 ((setI m 4 r (ix x2) 0 (m.1 r1 4 (ix x2) 0)).1 r1 4 (ix x2) 1)).1 r1 4 (ix x2) 2)).1 r1 4 (ix x2) 3)).1 r1 4 (ix x2) 4)) 4 r (ix x2) 5 ((setI (setI (setI (setI (setI m 4 r (ix x2) 0 (m.1 r1 4 (ix x2) 0)) 4 r (ix x2) 1 ((setI m 4 r (ix x2) 0 (m.1 r1 4 (ix x2) 0)).1 r1 4 (ix x2) 1)) 4 r (ix x2) 2 ((setI (setI m 4 r (ix x2) 0 (m.1 r1 4 (ix x2) 0)) 4 r (ix x2) 1 ((setI m 4 r (ix x2) 0 (m.1 r1 4 (ix x2) 0)).1 r1 4 (ix x2) 1)).1 r1 4 (ix x2) 2)) 4 r (ix x2) 3 ((setI (setI (setI m 4 r (ix x2) 0 (m.1 r1 4 (ix x2) 0)) 4 r (ix x2) 1 ((setI m 4 r (ix x2) 0 (m.1 r1 4 (ix x2) 0)).1 r1 4 (ix x2) 1)) 4 r (ix x2) 2 ((setI (setI m 4 r (ix x2) 0 (m.1 r1 4 (ix x2) 0)) 4 r (ix x2) 1 ((setI m 4 r (ix x2) 0 (m.1 r1 4 (ix x2) 0)).1 r1 4 (ix x2) 1)).1 r1 4 (ix x2) 2)).1 r1 4 (ix x2) 3)) 4 r (ix x2) 4 ((setI (setI (setI (setI m 4 r (ix x2) 0 (m.1 r1 4 (ix x2) 0)) 4 r (ix x2) 1 ((setI m 4 r (ix x2) 0 (m.1 r1 4 (ix x2) 0)).1 r1 4 (ix x2) 1)) 4 r (ix x2) 2 ((setI (setI m 4 r (ix x2) 0 (m.1 r1 4 (ix x2) 0)) 4 r (ix x2) 1 ((setI m 4 r (ix x2) 0 (m.1 r1 4 (ix x2) 0)).1 r1 4 (ix x2) 1)).1 r1 4 (ix x2) 2)) 4 r (ix x2) 3 ((setI (setI (setI m 4 r (ix x2) 0 (m.1 r1 4 (ix x2) 0)) 4 r (ix x2) 1 ((setI m 4 r (ix x2) 0 (m.1 r1 4 (ix x2) 0)).1 r1 4 (ix x2) 1)) 4 r (ix x2) 2 ((setI (setI m 4 r (ix x2) 0 (m.1 r1 4 (ix x2) 0)) 4 r (ix x2) 1 ((setI m 4 r (ix x2) 0 (m.1 r1 4 (ix x2) 0)).1 r1 4 (ix x2) 1)).1 r1 4 (ix x2) 2)).1 r1 4 (ix x2) 3)).1 r1 4 (ix x2) 4)).1 r1 4 (ix x2) 5)) 4 r (ix x2) 6 ((setI (setI (setI (setI (setI (setI m 4 r (ix x2) 0 (m.1 r1 4 (ix x2) 0)) 4 r (ix x2) 1 ((setI m 4 r (ix x2) 0 (m.1 r1 4 (ix x2) 0)).1 r1 4 (ix x2) 1)) 4 r (ix x2) 2 ((setI (setI m 4 r (ix x2) 0 (m.1 r1 4 (ix x2) 0)) 4 r (ix x2) 1 ((setI m 4 r (ix x2) 0 (m.1 r1 4 (ix x2) 0)).1 r1 4 (ix x2) 1)).1 r1 4 (ix x2) 2)) 4 r (ix x2) 3 ((setI (setI (setI m 4 r (ix x2) 0 (m.1 r1 4 (ix x2) 0)) 4 r (ix x2) 1 ((setI m 4 r (ix x2) 0 (m.1 r1 4 (ix x2) 0)).1 r1 4 (ix x2) 1)) 4 r (ix x2) 2 ((setI (setI m 4 r (ix x2) 0 (m.1 r1 4 (ix x2) 0)) 4 r (ix x2) 1 ((setI m 4 r (ix x2) 0 (m.1 r1 4 (ix x2) 0)).1 r1 4 (ix x2) 1)).1 r1 4 (ix x2) 2)).1 r1 4 (ix x2) 3)) 4 r (ix x2) 4 ((setI (setI (setI (setI m 4 r (ix x2) 0 (m.1 r1 4 (ix x2) 0)) 4 r (ix x2) 1 ((setI m 4 r (ix x2) 0 (m.1 r1 4 (ix x2) 0)).1 r1 4 (ix x2) 1)) 4 r (ix x2) 2 ((setI (setI m 4 r (ix x2) 0 (m.1 r1 4 (ix x2) 0)) 4 r (ix x2) 1 ((setI m 4 r (ix x2) 0 (m.1 r1 4 (ix x2) 0)).1 r1 4 (ix x2) 1)).1 r1 4 (ix x2) 2)) 4 r (ix x2) 3 ((setI (setI (setI m 4 r (ix x2) 0 (m.1 r1 4 (ix x2) 0)) 4 r (ix x2) 1 ((setI m 4 r (ix x2) 0 (m.1 r1 4 (ix x2) 0)).1 r1 4 (ix x2) 1)) 4 r (ix x2) 2 ((setI (setI m 4 r (ix x2) 0 (m.1 r1 4 (ix x2) 0)) 4 r (ix x2) 1 ((setI m 4 r (ix x2) 0 (m.1 r1 4 (ix x2) 0)).1 r1 4 (ix x2) 1)).1 r1 4 (ix x2) 2)).1 r1 4 (ix x2) 3)).1 r1 4 (ix x2) 4)) 4 r (ix x2) 5 ((setI (setI (setI (setI (setI m 4 r (ix x2) 0 (m.1 r1 4 (ix x2) 0)) 4 r (ix x2) 1 ((setI m 4 r (ix x2) 0 (m.1 r1 4 (ix x2) 0)).1 r1 4 (ix x2) 1)) 4 r (ix x2) 2 ((setI (setI m 4 r (ix x2) 0 (m.1 r1 4 (ix x2) 0)) 4 r (ix x2) 1 ((setI m 4 r (ix x2) 0 (m.1 r1 4 (ix x2) 0)).1 r1 4 (ix x2) 1)).1 r1 4 (ix x2) 2)) 4 r (ix x2) 3 ((setI (setI (setI m 4 r (ix x2) 0 (m.1 r1 4 (ix x2) 0)) 4 r (ix x2) 1 ((setI m 4 r (ix x2) 0 (m.1 r1 4 (ix x2) 0)).1 r1 4 (ix x2) 1)) 4 r (ix x2) 2 ((setI (setI m 4 r (ix x2) 0 (m.1 r1 4 (ix x2) 0)) 4 r (ix x2) 1 ((setI m 4 r (ix x2) 0 (m.1 r1 4 (ix x2) 0)).1 r1 4 (ix x2) 1)).1 r1 4 (ix x2) 2)).1 r1 4 (ix x2) 3)) 4 r (ix x2) 4 ((setI (setI (setI (setI m 4 r (ix x2) 0 (m.1 r1 4 (ix x2) 0)) 4 r (ix x2) 1 ((setI m 4 r (ix x2) 0 (m.1 r1 4 (ix x2) 0)).1 r1 4 (ix x2) 1)) 4 r (ix x2) 2 ((setI (setI m 4 r (ix x2) 0 (m.1 r1 4 (ix x2) 0)) 4 r (ix x2) 1 ((setI m 4 r (ix x2) 0 (m.1 r1 4 (ix x2) 0)).1 r1 4 (ix x2) 1)).1 r1 4 (ix x2) 2)) 4 r (ix x2) 3 ((setI (setI (setI m 4 r (ix x2) 0 (m.1 r1 4 (ix x2) 0)) 4 r (ix x2) 1 ((setI m 4 r (ix x2) 0 (m.1 r1 4 (ix x2) 0)).1 r1 4 (ix x2) 1)) 4 r (ix x2) 2 ((setI (setI m 4 r (ix x2) 0 (m.1 r1 4 (ix x2) 0)) 4 r (ix x2) 1 ((setI m 4 r (ix x2) 0 (m.1 r1 4 (ix x2) 0)).1 r1 4 (ix x2) 1)).1 r1 4 (ix x2) 2)).1 r1 4 (ix x2) 3)).1 r1 4 (ix x2) 4)).1 r1 4 (ix x2) 5)).1 r1 4 (ix x2) 6)).1 r1 4 (ix x2) 7)) 4 r (ix x2) 8 ((setI (setI (setI (setI (setI (setI (setI (setI m 4 r (ix x2) 0 (m.1 r1 4 (ix x2) 0)) 4 r (ix x2) 1 ((setI m 4 r (ix x2) 0 (m.1 r1 4 (ix x2) 0)).1 r1 4 (ix x2) 1)) 4 r (ix x2) 2 ((setI (setI m 4 r (ix x2) 0 (m.1 r1 4 (ix x2) 0)) 4 r (ix x2) 1 ((setI m 4 r (ix x2) 0 (m.1 r1 4 (ix x2) 0)).1 r1 4 (ix x2) 1)).1 r1 4 (ix x2) 2)) 4 r (ix x2) 3 ((setI (setI (setI m 4 r (ix x2) 0 (m.1 r1 4 (ix x2) 0)) 4 r (ix x2) 1 ((setI m 4 r (ix x2) 0 (m.1 r1 4 (ix x2) 0)).1 r1 4 (ix x2) 1)) 4 r (ix x2) 2 ((setI (setI m 4 r (ix x2) 0 (m.1 r1 4 (ix x2) 0)) 4 r (ix x2) 1 ((setI m 4 r (ix x2) 0 (m.1 r1 4 (ix x2) 0)).1 r1 4 (ix x2) 1)).1 r1 4 (ix x2) 2)).1 r1 4 (ix x2) 3)) 4 r (ix x2) 4 ((setI (setI (setI (setI m 4 r (ix x2) 0 (m.1 r1 4 (ix x2) 0)) 4 r (ix x2) 1 ((setI m 4 r (ix x2) 0 (m.1 r1 4 (ix x2) 0)).1 r1 4 (ix x2) 1)) 4 r (ix x2) 2 ((setI (setI m 4 r (ix x2) 0 (m.1 r1 4 (ix x2) 0)) 4 r (ix x2) 1 ((setI m 4 r (ix x2) 0 (m.1 r1 4 (ix x2) 0)).1 r1 4 (ix x2) 1)).1 r1 4 (ix x2) 2)) 4 r (ix x2) 3 ((setI (setI (setI m 4 r (ix x2) 0 (m.1 r1 4 (ix x2) 0)) 4 r (ix x2) 1 ((setI m 4 r (ix x2) 0 (m.1 r1 4 (ix x2) 0)).1 r1 4 (ix x2) 1)) 4 r (ix x2) 2 ((setI (setI m 4 r (ix x2) 0 (m.1 r1 4 (ix x2) 0)) 4 r (ix x2) 1 ((setI m 4 r (ix x2) 0 (m.1 r1 4 (ix x2) 0)).1 r1 4 (ix x2) 1)).1 r1 4 (ix x2) 2)).1 r1 4 (ix x2) 3)).1 r1 4 (ix x2) 4)) 4 r (ix x2) 5 ((setI (setI (setI (setI (setI m 4 r (ix x2) 0 (m.1 r1 4 (ix x2) 0)) 4 r (ix x2) 1 ((setI m 4 r (ix x2) 0 (m.1 r1 4 (ix x2) 0)).1 r1 4 (ix x2) 1)) 4 r (ix x2) 2 ((setI (setI m 4 r (ix x2) 0 (m.1 r1 4 (ix x2) 0)) 4 r (ix x2) 1 ((setI m 4 r (ix x2) 0 (m.1 r1 4 (ix x2) 0)).1 r1 4 (ix x2) 1)).1 r1 4 (ix x2) 2)) 4 r (ix x2) 3 ((setI (setI (setI m 4 r (ix x2) 0 (m.1 r1 4 (ix x2) 0)) 4 r (ix x2) 1 ((setI m 4 r (ix x2) 0 (m.1 r1 4 (ix x2) 0)).1 r1 4 (ix x2) 1)) 4 r (ix x2) 2 ((setI (setI m 4 r (ix x2) 0 (m.1 r1 4 (ix x2) 0)) 4 r (ix x2) 1 ((setI m 4 r (ix x2) 0 (m.1 r1 4 (ix x2) 0)).1 r1 4 (ix x2) 1)).1 r1 4 (ix x2) 2)).1 r1 4 (ix x2) 3)) 4 r (ix x2) 4 ((setI (setI (setI (setI m 4 r (ix x2) 0 (m.1 r1 4 (ix x2) 0)) 4 r (ix x2) 1 ((setI m 4 r (ix x2) 0 (m.1 r1 4 (ix x2) 0)).1 r1 4 (ix x2) 1)) 4 r (ix x2) 2 ((setI (setI m 4 r (ix x2) 0 (m.1 r1 4 (ix x2) 0)) 4 r (ix x2) 1 ((setI m 4 r (ix x2) 0 (m.1 r1 4 (ix x2) 0)).1 r1 4 (ix x2) 1)).1 r1 4 (ix x2) 2)) 4 r (ix x2) 3 ((setI (setI (setI m 4 r (ix x2) 0 (m.1 r1 4 (ix x2) 0)) 4 r (ix x2) 1 ((setI m 4 r (ix x2) 0 (m.1 r1 4 (ix x2) 0)).1 r1 4 (ix x2) 1)) 4 r (ix x2) 2 ((setI (setI m 4 r (ix x2) 0 (m.1 r1 4 (ix x2) 0)) 4 r (ix x2) 1 ((setI m 4 r (ix x2) 0 (m.1 r1 4 (ix x2) 0)).1 r1 4 (ix x2) 1)).1 r1 4 (ix x2) 2)).1 r1 4 (ix x2) 3)).1 r1 4 (ix x2) 4)).1 r1 4 (ix x2) 5)) 4 r (ix x2) 6 ((setI (setI (setI (setI (setI (setI m 4 r (ix x2) 0 (m.1 r1 4 (ix x2) 0)) 4 r (ix x2) 1 ((setI m 4 r (ix x2) 0 (m.1 r1 4 (ix x2) 0)).1 r1 4 (ix x2) 1)) 4 r (ix x2) 2 ((setI (setI m 4 r (ix x2) 0 (m.1 r1 4 (ix x2) 0)) 4 r (ix x2) 1 ((setI m 4 r (ix x2) 0 (m.1 r1 4 (ix x2) 0)).1 r1 4 (ix x2) 1)).1 r1 4 (ix x2) 2)) 4 r (ix x2) 3 ((setI (setI (setI m 4 r (ix x2) 0 (m.1 r1 4 (ix x2) 0)) 4 r (ix x2) 1 ((setI m 4 r (ix x2) 0 (m.1 r1 4 (ix x2) 0)).1 r1 4 (ix x2) 1)) 4 r (ix x2) 2 ((setI (setI m 4 r (ix x2) 0 (m.1 r1 4 (ix x2) 0)) 4 r (ix x2) 1 ((setI m 4 r (ix x2) 0 (m.1 r1 4 (ix x2) 0)).1 r1 4 (ix x2) 1)).1 r1 4 (ix x2) 2)).1 r1 4 (ix x2) 3)) 4 r (ix x2) 4 ((setI (setI (setI (setI m 4 r (ix x2) 0 (m.1 r1 4 (ix x2) 0)) 4 r (ix x2) 1 ((setI m 4 r (ix x2) 0 (m.1 r1 4 (ix x2) 0)).1 r1 4 (ix x2) 1)) 4 r (ix x2) 2 ((setI (setI m 4 r (ix x2) 0 (m.1 r1 4 (ix x2) 0)) 4 r (ix x2) 1 ((setI m 4 r (ix x2) 0 (m.1 r1 4 (ix x2) 0)).1 r1 4 (ix x2) 1)).1 r1 4 (ix x2) 2)) 4 r (ix x2) 3 ((setI (setI (setI m 4 r (ix x2) 0 (m.1 r1 4 (ix x2) 0)) 4 r (ix x2) 1 ((setI m 4 r (ix x2) 0 (m.1 r1 4 (ix x2) 0)).1 r1 4 (ix x2) 1)) 4 r (ix x2) 2 ((setI (setI m 4 r (ix x2) 0 (m.1 r1 4 (ix x2) 0)) 4 r (ix x2) 1 ((setI m 4 r (ix x2) 0 (m.1 r1 4 (ix x2) 0)).1 r1 4 (ix x2) 1)).1 r1 4 (ix x2) 2)).1 r1 4 (ix x2) 3)).1 r1 4 (ix x2) 4)) 4 r (ix x2) 5 ((setI (setI (setI (setI (setI m 4 r (ix x2) 0 (m.1 r1 4 (ix x2) 0)) 4 r (ix x2) 1 ((setI m 4 r (ix x2) 0 (m.1 r1 4 (ix x2) 0)).1 r1 4 (ix x2) 1)) 4 r (ix x2) 2 ((setI (setI m 4 r (ix x2) 0 (m.1 r1 4 (ix x2) 0)) 4 r (ix x2) 1 ((setI m 4 r (ix x2) 0 (m.1 r1 4 (ix x2) 0)).1 r1 4 (ix x2) 1)).1 r1 4 (ix x2) 2)) 4 r (ix x2) 3 ((setI (setI (setI m 4 r (ix x2) 0 (m.1 r1 4 (ix x2) 0)) 4 r (ix x2) 1 ((setI m 4 r (ix x2) 0 (m.1 r1 4 (ix x2) 0)).1 r1 4 (ix x2) 1)) 4 r (ix x2) 2 ((setI (setI m 4 r (ix x2) 0 (m.1 r1 4 (ix x2) 0)) 4 r (ix x2) 1 ((setI m 4 r (ix x2) 0 (m.1 r1 4 (ix x2) 0)).1 r1 4 (ix x2) 1)).1 r1 4 (ix x2) 2)).1 r1 4 (ix x2) 3)) 4 r (ix x2) 4 ((setI (setI (setI (setI m 4 r (ix x2) 0 (m.1 r1 4 (ix x2) 0)) 4 r (ix x2) 1 ((setI m 4 r (ix x2) 0 (m.1 r1 4 (ix x2) 0)).1 r1 4 (ix x2) 1)) 4 r (ix x2) 2 ((setI (setI m 4 r (ix x2) 0 (m.1 r1 4 (ix x2) 0)) 4 r (ix x2) 1 ((setI m 4 r (ix x2) 0 (m.1 r1 4 (ix x2) 0)).1 r1 4 (ix x2) 1)).1 r1 4 (ix x2) 2)) 4 r (ix x2) 3 ((setI (setI (setI m 4 r (ix x2) 0 (m.1 r1 4 (ix x2) 0)) 4 r (ix x2) 1 ((setI m 4 r (ix x2) 0 (m.1 r1 4 (ix x2) 0)).1 r1 4 (ix x2) 1)) 4 r (ix x2) 2 ((setI (setI m 4 r (ix x2) 0 (m.1 r1 4 (ix x2) 0)) 4 r (ix x2) 1 ((setI m 4 r (ix x2) 0 (m.1 r1 4 (ix x2) 0)).1 r1 4 (ix x2) 1)).1 r1 4 (ix x2) 2)).1 r1 4 (ix x2) 3)).1 r1 4 (ix x2) 4)).1 r1 4 (ix x2) 5)).1 r1 4 (ix x2) 6)) 4 r (ix x2) 7 ((setI (setI (setI (setI (setI (setI (setI m 4 r (ix x2) 0 (m.1 r1 4 (ix x2) 0)) 4 r (ix x2) 1 ((setI m 4 r (ix x2) 0 (m.1 r1 4 (ix x2) 0)).1 r1 4 (ix x2) 1)) 4 r (ix x2) 2 ((setI (setI m 4 r (ix x2) 0 (m.1 r1 4 (ix x2) 0)) 4 r (ix x2) 1 ((setI m 4 r (ix x2) 0 (m.1 r1 4 (ix x2) 0)).1 r1 4 (ix x2) 1)).1 r1 4 (ix x2) 2)) 4 r (ix x2) 3 ((setI (setI (setI m 4 r (ix x2) 0 (m.1 r1 4 (ix x2) 0)) 4 r (ix x2) 1 ((setI m 4 r (ix x2) 0 (m.1 r1 4 (ix x2) 0)).1 r1 4 (ix x2) 1)) 4 r (ix x2) 2 ((setI (setI m 4 r (ix x2) 0 (m.1 r1 4 (ix x2) 0)) 4 r (ix x2) 1 ((setI m 4 r (ix x2) 0 (m.1 r1 4 (ix x2) 0)).1 r1 4 (ix x2) 1)).1 r1 4 (ix x2) 2)).1 r1 4 (ix x2) 3)) 4 r (ix x2) 4 ((setI (setI (setI (setI m 4 r (ix x2) 0 (m.1 r1 4 (ix x2) 0)) 4 r (ix x2) 1 ((setI m 4 r (ix x2) 0 (m.1 r1 4 (ix x2) 0)).1 r1 4 (ix x2) 1)) 4 r (ix x2) 2 ((setI (setI m 4 r (ix x2) 0 (m.1 r1 4 (ix x2) 0)) 4 r (ix x2) 1 ((setI m 4 r (ix x2) 0 (m.1 r1 4 (ix x2) 0)).1 r1 4 (ix x2) 1)).1 r1 4 (ix x2) 2)) 4 r (ix x2) 3 ((setI (setI (setI m 4 r (ix x2) 0 (m.1 r1 4 (ix x2) 0)) 4 r (ix x2) 1 ((setI m 4 r (ix x2) 0 (m.1 r1 4 (ix x2) 0)).1 r1 4 (ix x2) 1)) 4 r (ix x2) 2 ((setI (setI m 4 r (ix x2) 0 (m.1 r1 4 (ix x2) 0)) 4 r (ix x2) 1 ((setI m 4 r (ix x2) 0 (m.1 r1 4 (ix x2) 0)).1 r1 4 (ix x2) 1)).1 r1 4 (ix x2) 2)).1 r1 4 (ix x2) 3)).1 r1 4 (ix x2) 4)) 4 r (ix x2) 5 ((setI (setI (setI (setI (setI m 4 r (ix x2) 0 (m.1 r1 4 (ix x2) 0)) 4 r (ix x2) 1 ((setI m 4 r (ix x2) 0 (m.1 r1 4 (ix x2) 0)).1 r1 4 (ix x2) 1)) 4 r (ix x2) 2 ((setI (setI m 4 r (ix x2) 0 (m.1 r1 4 (ix x2) 0)) 4 r (ix x2) 1 ((setI m 4 r (ix x2) 0 (m.1 r1 4 (ix x2) 0)).1 r1 4 (ix x2) 1)).1 r1 4 (ix x2) 2)) 4 r (ix x2) 3 ((setI (setI (setI m 4 r (ix x2) 0 (m.1 r1 4 (ix x2) 0)) 4 r (ix x2) 1 ((setI m 4 r (ix x2) 0 (m.1 r1 4 (ix x2) 0)).1 r1 4 (ix x2) 1)) 4 r (ix x2) 2 ((setI (setI m 4 r (ix x2) 0 (m.1 r1 4 (ix x2) 0)) 4 r (ix x2) 1 ((setI m 4 r (ix x2) 0 (m.1 r1 4 (ix x2) 0)).1 r1 4 (ix x2) 1)).1 r1 4 (ix x2) 2)).1 r1 4 (ix x2) 3)) 4 r (ix x2) 4 ((setI (setI (setI (setI m 4 r (ix x2) 0 (m.1 r1 4 (ix x2) 0)) 4 r (ix x2) 1 ((setI m 4 r (ix x2) 0 (m.1 r1 4 (ix x2) 0)).1 r1 4 (ix x2) 1)) 4 r (ix x2) 2 ((setI (setI m 4 r (ix x2) 0 (m.1 r1 4 (ix x2) 0)) 4 r (ix x2) 1 ((setI m 4 r (ix x2) 0 (m.1 r1 4 (ix x2) 0)).1 r1 4 (ix x2) 1)).1 r1 4 (ix x2) 2)) 4 r (ix x2) 3 ((setI (setI (setI m 4 r (ix x2) 0 (m.1 r1 4 (ix x2) 0)) 4 r (ix x2) 1 ((setI m 4 r (ix x2) 0 (m.1 r1 4 (ix x2) 0)).1 r1 4 (ix x2) 1)) 4 r (ix x2) 2 ((setI (setI m 4 r (ix x2) 0 (m.1 r1 4 (ix x2) 0)) 4 r (ix x2) 1 ((setI m 4 r (ix x2) 0 (m.1 r1 4 (ix x2) 0)).1 r1 4 (ix x2) 1)).1 r1 4 (ix x2) 2)).1 r1 4 (ix x2) 3)).1 r1 4 (ix x2) 4)).1 r1 4 (ix x2) 5)) 4 r (ix x2) 6 ((setI (setI (setI (setI (setI (setI m 4 r (ix x2) 0 (m.1 r1 4 (ix x2) 0)) 4 r (ix x2) 1 ((setI m 4 r (ix x2) 0 (m.1 r1 4 (ix x2) 0)).1 r1 4 (ix x2) 1)) 4 r (ix x2) 2 ((setI (setI m 4 r (ix x2) 0 (m.1 r1 4 (ix x2) 0)) 4 r (ix x2) 1 ((setI m 4 r (ix x2) 0 (m.1 r1 4 (ix x2) 0)).1 r1 4 (ix x2) 1)).1 r1 4 (ix x2) 2)) 4 r (ix x2) 3 ((setI (setI (setI m 4 r (ix x2) 0 (m.1 r1 4 (ix x2) 0)) 4 r (ix x2) 1 ((setI m 4 r (ix x2) 0 (m.1 r1 4 (ix x2) 0)).1 r1 4 (ix x2) 1)) 4 r (ix x2) 2 ((setI (setI m 4 r (ix x2) 0 (m.1 r1 4 (ix x2) 0)) 4 r (ix x2) 1 ((setI m 4 r (ix x2) 0 (m.1 r1 4 (ix x2) 0)).1 r1 4 (ix x2) 1)).1 r1 4 (ix x2) 2)).1 r1 4 (ix x2) 3)) 4 r (ix x2) 4 ((setI (setI (setI (setI m 4 r (ix x2) 0 (m.1 r1 4 (ix x2) 0)) 4 r (ix x2) 1 ((setI m 4 r (ix x2) 0 (m.1 r1 4 (ix x2) 0)).1 r1 4 (ix x2) 1)) 4 r (ix x2) 2 ((setI (setI m 4 r (ix x2) 0 (m.1 r1 4 (ix x2) 0)) 4 r (ix x2) 1 ((setI m 4 r (ix x2) 0 (m.1 r1 4 (ix x2) 0)).1 r1 4 (ix x2) 1)).1 r1 4 (ix x2) 2)) 4 r (ix x2) 3 ((setI (setI (setI m 4 r (ix x2) 0 (m.1 r1 4 (ix x2) 0)) 4 r (ix x2) 1 ((setI m 4 r (ix x2) 0 (m.1 r1 4 (ix x2) 0)).1 r1 4 (ix x2) 1)) 4 r (ix x2) 2 ((setI (setI m 4 r (ix x2) 0 (m.1 r1 4 (ix x2) 0)) 4 r (ix x2) 1 ((setI m 4 r (ix x2) 0 (m.1 r1 4 (ix x2) 0)).1 r1 4 (ix x2) 1)).1 r1 4 (ix x2) 2)).1 r1 4 (ix x2) 3)).1 r1 4 (ix x2) 4)) 4 r (ix x2) 5 ((setI (setI (setI (setI (setI m 4 r (ix x2) 0 (m.1 r1 4 (ix x2) 0)) 4 r (ix x2) 1 ((setI m 4 r (ix x2) 0 (m.1 r1 4 (ix x2) 0)).1 r1 4 (ix x2) 1)) 4 r (ix x2) 2 ((setI (setI m 4 r (ix x2) 0 (m.1 r1 4 (ix x2) 0)) 4 r (ix x2) 1 ((setI m 4 r (ix x2) 0 (m.1 r1 4 (ix x2) 0)).1 r1 4 (ix x2) 1)).1 r1 4 (ix x2) 2)) 4 r (ix x2) 3 ((setI (setI (setI m 4 r (ix x2) 0 (m.1 r1 4 (ix x2) 0)) 4 r (ix x2) 1 ((setI m 4 r (ix x2) 0 (m.1 r1 4 (ix x2) 0)).1 r1 4 (ix x2) 1)) 4 r (ix x2) 2 ((setI (setI m 4 r (ix x2) 0 (m.1 r1 4 (ix x2) 0)) 4 r (ix x2) 1 ((setI m 4 r (ix x2) 0 (m.1 r1 4 (ix x2) 0)).1 r1 4 (ix x2) 1)).1 r1 4 (ix x2) 2)).1 r1 4 (ix x2) 3)) 4 r (ix x2) 4 ((setI (setI (setI (setI m 4 r (ix x2) 0 (m.1 r1 4 (ix x2) 0)) 4 r (ix x2) 1 ((setI m 4 r (ix x2) 0 (m.1 r1 4 (ix x2) 0)).1 r1 4 (ix x2) 1)) 4 r (ix x2) 2 ((setI (setI m 4 r (ix x2) 0 (m.1 r1 4 (ix x2) 0)) 4 r (ix x2) 1 ((setI m 4 r (ix x2) 0 (m.1 r1 4 (ix x2) 0)).1 r1 4 (ix x2) 1)).1 r1 4 (ix x2) 2)) 4 r (ix x2) 3 ((setI (setI (setI m 4 r (ix x2) 0 (m.1 r1 4 (ix x2) 0)) 4 r (ix x2) 1 ((setI m 4 r (ix x2) 0 (m.1 r1 4 (ix x2) 0)).1 r1 4 (ix x2) 1)) 4 r (ix x2) 2 ((setI (setI m 4 r (ix x2) 0 (m.1 r1 4 (ix x2) 0)) 4 r (ix x2) 1 ((setI m 4 r (ix x2) 0 (m.1 r1 4 (ix x2) 0)).1 r1 4 (ix x2) 1)).1 r1 4 (ix x2) 2)).1 r1 4 (ix x2) 3)).1 r1 4 (ix x2) 4)).1 r1 4 (ix x2) 5)).1 r1 4 (ix x2) 6)).1 r1 4 (ix x2) 7)).1 r1 4 (ix x2) 8)) Q))))) : Wq g (d + 2) MX1_copyFrom c n 78 [some (pO 0 r 0), some (pO 0 r1 0), some (pI x2)] [] m Q := by
  refine Wq.iload_n (x := x2) dX1_copyFrom_78 rfl ?_
  refine Wq.aload_n (t := 0) (r := r) (j := 0) dX1_copyFrom_79 rfl ?_
  refine Wq.getf (v := pO 7 r 0) dX1_copyFrom_80 fl_X1_39 ⟨rfl, rfl, by decide⟩ rfl ?_
  refine Wq.alen (v := 12) dX1_copyFrom_83 rfl (by decide) rfl ?_
  refine Wq.icmpge (tgt := 108) dX1_copyFrom_84 (by decide) (fun q1 => ?_) (fun q1 => ?_)
  · replace h := h.1 q1
    refine Wq.iconst (v := 0) dX1_copyFrom_108 (by decide) ?_
    refine Wq.istore_n (ls2 := [some (pO 0 r 0), some (pO 0 r1 0), some (pI 0)]) dX1_copyFrom_109 (by decide) rfl ?_
    exact h
  · replace h := h.2 q1
    refine Wq.aload_n (t := 0) (r := r) (j := 0) dX1_copyFrom_87 rfl ?_
    refine Wq.getf (v := pO 7 r 0) dX1_copyFrom_88 fl_X1_39 ⟨rfl, rfl, by decide⟩ rfl ?_
    refine Wq.iload_n (x := x2) dX1_copyFrom_91 rfl ?_
    refine Wq.aaldP dX1_copyFrom_92 h.1 ?_
    replace h := h.2
    refine Wq.aload_n (t := 0) (r := r1) (j := 0) dX1_copyFrom_93 rfl ?_
    refine Wq.getf (v := pO 7 r1 0) dX1_copyFrom_94 fl_X1_39 ⟨rfl, rfl, by decide⟩ rfl ?_
    refine Wq.iload_n (x := x2) dX1_copyFrom_97 rfl ?_
    refine Wq.aaldP dX1_copyFrom_98 h.1 ?_
    replace h := h.2
    refine Wq.callVV (As := [pO 4 r1 (ix x2)]) dX1_copyFrom_99 fX3_copyFrom ml_X1_66 rfl (by decide) rfl (Nat.le_of_ble_eq_true rfl) (Nat.le_of_ble_eq_true rfl) ?_ (fun _ h9 => h9)
    refine Wq.few (ls' := [some (pO 4 r (ix x2)), some (pO 4 r1 (ix x2))]) ⟨rfl, ⟨rfl, trivial⟩⟩ ?_
    refine Wq.aload_n (t := 4) (r := r) (j := (ix x2)) dX3_copyFrom_0 rfl ?_
    refine Wq.aload_n (t := 4) (r := r1) (j := (ix x2)) dX3_copyFrom_1 rfl ?_
    refine Wq.getf (v := pI (m.1 r1 4 (ix x2) 0)) dX3_copyFrom_2 fl_X3_9 ⟨rfl, rfl, by decide⟩ rfl ?_
    refine Wq.putI dX3_copyFrom_5 fw_X3_9 ⟨rfl, rfl, by decide⟩ ⟨rfl, by decide, by decide⟩ ⟨rfl, rfl⟩ ?_
    refine Wq.aload_n (t := 4) (r := r) (j := (ix x2)) dX3_copyFrom_8 rfl ?_
    refine Wq.aload_n (t := 4) (r := r1) (j := (ix x2)) dX3_copyFrom_9 rfl ?_
    refine Wq.getf (v := pI ((setI m 4 r (ix x2) 0 (m.1 r1 4 (ix x2) 0)).1 r1 4 (ix x2) 1)) dX3_copyFrom_10 fl_X3_15 ⟨rfl, rfl, by decide⟩ rfl ?_
    refine Wq.putI dX3_copyFrom_13 fw_X3_15 ⟨rfl, rfl, by decide⟩ ⟨rfl, by decide, by decide⟩ ⟨rfl, rfl⟩ ?_
    refine Wq.aload_n (t := 4) (r := r) (j := (ix x2)) dX3_copyFrom_16 rfl ?_
    refine Wq.aload_n (t := 4) (r := r1) (j := (ix x2)) dX3_copyFrom_17 rfl ?_
    refine Wq.getf (v := pI ((setI (setI m 4 r (ix x2) 0 (m.1 r1 4 (ix x2) 0)) 4 r (ix x2) 1 ((setI m 4 r (ix x2) 0 (m.1 r1 4 (ix x2) 0)).1 r1 4 (ix x2) 1)).1 r1 4 (ix x2) 2)) dX3_copyFrom_18 fl_X3_18 ⟨rfl, rfl, by decide⟩ rfl ?_
    refine Wq.putI dX3_copyFrom_21 fw_X3_18 ⟨rfl, rfl, by decide⟩ ⟨rfl, by decide, by decide⟩ ⟨rfl, rfl⟩ ?_
    refine Wq.aload_n (t := 4) (r := r) (j := (ix x2)) dX3_copyFrom_24 rfl ?_
    refine Wq.aload_n (t := 4) (r := r1) (j := (ix x2)) dX3_copyFrom_25 rfl ?_
    refine Wq.getf (v := pI ((setI (setI (setI m 4 r (ix x2) 0 (m.1 r1 4 (ix x2) 0)) 4 r (ix x2) 1 ((setI m 4 r (ix x2) 0 (m.1 r1 4 (ix x2) 0)).1 r1 4 (ix x2) 1)) 4 r (ix x2) 2 ((setI (setI m 4 r (ix x2) 0 (m.1 r1 4 (ix x2) 0)) 4 r (ix x2) 1 ((setI m 4 r (ix x2) 0 (m.1 r1 4 (ix x2) 0)).1 r1 4 (ix x2) 1)).1 r1 4 (ix x2) 2)).1 r1 4 (ix x2) 3)) dX3_copyFrom_26 fl_X3_21 ⟨rfl, rfl, by decide⟩ rfl ?_
    refine Wq.putI dX3_copyFrom_29 fw_X3_21 ⟨rfl, rfl, by decide⟩ ⟨rfl, by decide, by decide⟩ ⟨rfl, rfl⟩ ?_
    refine Wq.aload_n (t := 4) (r := r) (j := (ix x2)) dX3_copyFrom_32 rfl ?_
    refine Wq.aload_n (t := 4) (r := r1) (j := (ix x2)) dX3_copyFrom_33 rfl ?_
    refine Wq.getf (v := pI ((setI (setI (setI (setI m 4 r (ix x2) 0 (m.1 r1 4 (ix x2) 0)) 4 r (ix x2) 1 ((setI m 4 r (ix x2) 0 (m.1 r1 4 (ix x2) 0)).1 r1 4 (ix x2) 1)) 4 r (ix x2) 2 ((setI (setI m 4 r (ix x2) 0 (m.1 r1 4 (ix x2) 0)) 4 r (ix x2) 1 ((setI m 4 r (ix x2) 0 (m.1 r1 4 (ix x2) 0)).1 r1 4 (ix x2) 1)).1 r1 4 (ix x2) 2)) 4 r (ix x2) 3 ((setI (setI (setI m 4 r (ix x2) 0 (m.1 r1 4 (ix x2) 0)) 4 r (ix x2) 1 ((setI m 4 r (ix x2) 0 (m.1 r1 4 (ix x2) 0)).1 r1 4 (ix x2) 1)) 4 r (ix x2) 2 ((setI (setI m 4 r (ix x2) 0 (m.1 r1 4 (ix x2) 0)) 4 r (ix x2) 1 ((setI m 4 r (ix x2) 0 (m.1 r1 4 (ix x2) 0)).1 r1 4 (ix x2) 1)).1 r1 4 (ix x2) 2)).1 r1 4 (ix x2) 3)).1 r1 4 (ix x2) 4)) dX3_copyFrom_34 fl_X3_24 ⟨rfl, rfl, by decide⟩ rfl ?_
    refine Wq.putI dX3_copyFrom_37 fw_X3_24 ⟨rfl, rfl, by decide⟩ ⟨rfl, by decide, by decide⟩ ⟨rfl, rfl⟩ ?_
    refine Wq.aload_n (t := 4) (r := r) (j := (ix x2)) dX3_copyFrom_40 rfl ?_
    refine Wq.aload_n (t := 4) (r := r1) (j := (ix x2)) dX3_copyFrom_41 rfl ?_
    refine Wq.getf (v := pI ((setI (setI (setI (setI (setI m 4 r (ix x2) 0 (m.1 r1 4 (ix x2) 0)) 4 r (ix x2) 1 ((setI m 4 r (ix x2) 0 (m.1 r1 4 (ix x2) 0)).1 r1 4 (ix x2) 1)) 4 r (ix x2) 2 ((setI (setI m 4 r (ix x2) 0 (m.1 r1 4 (ix x2) 0)) 4 r (ix x2) 1 ((setI m 4 r (ix x2) 0 (m.1 r1 4 (ix x2) 0)).1 r1 4 (ix x2) 1)).1 r1 4 (ix x2) 2)) 4 r (ix x2) 3 ((setI (setI (setI m 4 r (ix x2) 0 (m.1 r1 4 (ix x2) 0)) 4 r (ix x2) 1 ((setI m 4 r (ix x2) 0 (m.1 r1 4 (ix x2) 0)).1 r1 4 (ix x2) 1)) 4 r (ix x2) 2 ((setI (setI m 4 r (ix x2) 0 (m.1 r1 4 (ix x2) 0)) 4 r (ix x2) 1 ((setI m 4 r (ix x2) 0 (m.1 r1 4 (ix x2) 0)).1 r1 4 (ix x2) 1)).1 r1 4 (ix x2) 2)).1 r1 4 (ix x2) 3)) 4 r (ix x2) 4 ((setI (setI (setI (setI m 4 r (ix x2) 0 (m.1 r1 4 (ix x2) 0)) 4 r (ix x2) 1 ((setI m 4 r (ix x2) 0 (m.1 r1 4 (ix x2) 0)).1 r1 4 (ix x2) 1)) 4 r (ix x2) 2 ((setI (setI m 4 r (ix x2) 0 (m.1 r1 4 (ix x2) 0)) 4 r (ix x2) 1 ((setI m 4 r (ix x2) 0 (m.1 r1 4 (ix x2) 0)).1 r1 4 (ix x2) 1)).1 r1 4 (ix x2) 2)) 4 r (ix x2) 3 ((setI (setI (setI m 4 r (ix x2) 0 (m.1 r1 4 (ix x2) 0)) 4 r (ix x2) 1 ((setI m 4 r (ix x2) 0 (m.1 r1 4 (ix x2) 0)).1 r1 4 (ix x2) 1)) 4 r (ix x2) 2 ((setI (setI m 4 r (ix x2) 0 (m.1 r1 4 (ix x2) 0)) 4 r (ix x2) 1 ((setI m 4 r (ix x2) 0 (m.1 r1 4 (ix x2) 0)).1 r1 4 (ix x2) 1)).1 r1 4 (ix x2) 2)).1 r1 4 (ix x2) 3)).1 r1 4 (ix x2) 4)).1 r1 4 (ix x2) 5)) dX3_copyFrom_42 fl_X3_27 ⟨rfl, rfl, by decide⟩ rfl ?_
    refine Wq.putI dX3_copyFrom_45 fw_X3_27 ⟨rfl, rfl, by decide⟩ ⟨rfl, by decide, by decide⟩ ⟨rfl, rfl⟩ ?_
    refine Wq.aload_n (t := 4) (r := r) (j := (ix x2)) dX3_copyFrom_48 rfl ?_
    refine Wq.aload_n (t := 4) (r := r1) (j := (ix x2)) dX3_copyFrom_49 rfl ?_
    refine Wq.getf (v := pI ((setI (setI (setI (setI (setI (setI m 4 r (ix x2) 0 (m.1 r1 4 (ix x2) 0)) 4 r (ix x2) 1 ((setI m 4 r (ix x2) 0 (m.1 r1 4 (ix x2) 0)).1 r1 4 (ix x2) 1)) 4 r (ix x2) 2 ((setI (setI m 4 r (ix x2) 0 (m.1 r1 4 (ix x2) 0)) 4 r (ix x2) 1 ((setI m 4 r (ix x2) 0 (m.1 r1 4 (ix x2) 0)).1 r1 4 (ix x2) 1)).1 r1 4 (ix x2) 2)) 4 r (ix x2) 3 ((setI (setI (setI m 4 r (ix x2) 0 (m.1 r1 4 (ix x2) 0)) 4 r (ix x2) 1 ((setI m 4 r (ix x2) 0 (m.1 r1 4 (ix x2) 0)).1 r1 4 (ix x2) 1)) 4 r (ix x2) 2 ((setI (setI m 4 r (ix x2) 0 (m.1 r1 4 (ix x2) 0)) 4 r (ix x2) 1 ((setI m 4 r (ix x2) 0 (m.1 r1 4 (ix x2) 0)).1 r1 4 (ix x2) 1)).1 r1 4 (ix x2) 2)).1 r1 4 (ix x2) 3)) 4 r (ix x2) 4 ((setI (setI (setI (setI m 4 r (ix x2) 0 (m.1 r1 4 (ix x2) 0)) 4 r (ix x2) 1 ((setI m 4 r (ix x2) 0 (m.1 r1 4 (ix x2) 0)).1 r1 4 (ix x2) 1)) 4 r (ix x2) 2 ((setI (setI m 4 r (ix x2) 0 (m.1 r1 4 (ix x2) 0)) 4 r (ix x2) 1 ((setI m 4 r (ix x2) 0 (m.1 r1 4 (ix x2) 0)).1 r1 4 (ix x2) 1)).1 r1 4 (ix x2) 2)) 4 r (ix x2) 3 ((setI (setI (setI m 4 r (ix x2) 0 (m.1 r1 4 (ix x2) 0)) 4 r (ix x2) 1 ((setI m 4 r (ix x2) 0 (m.1 r1 4 (ix x2) 0)).1 r1 4 (ix x2) 1)) 4 r (ix x2) 2 ((setI (setI m 4 r (ix x2) 0 (m.1 r1 4 (ix x2) 0)) 4 r (ix x2) 1 ((setI m 4 r (ix x2) 0 (m.1 r1 4 (ix x2) 0)).1 r1 4 (ix x2) 1)).1 r1 4 (ix x2) 2)).1 r1 4 (ix x2) 3)).1 r1 4 (ix x2) 4)) 4 r (ix x2) 5 ((setI (setI (setI (setI (setI m 4 r (ix x2) 0 (m.1 r1 4 (ix x2) 0)) 4 r (ix x2) 1 ((setI m 4 r (ix x2) 0 (m.1 r1 4 (ix x2) 0)).1 r1 4 (ix x2) 1)) 4 r (ix x2) 2 ((setI (setI m 4 r (ix x2) 0 (m.1 r1 4 (ix x2) 0)) 4 r (ix x2) 1 ((setI m 4 r (ix x2) 0 (m.1 r1 4 (ix x2) 0)).1 r1 4 (ix x2) 1)).1 r1 4 (ix x2) 2)) 4 r (ix x2) 3 ((setI (setI (setI m 4 r (ix x2) 0 (m.1 r1 4 (ix x2) 0)) 4 r (ix x2) 1 ((setI m 4 r (ix x2) 0 (m.1 r1 4 (ix x2) 0)).1 r1 4 (ix x2) 1)) 4 r (ix x2) 2 ((setI (setI m 4 r (ix x2) 0 (m.1 r1 4 (ix x2) 0)) 4 r (ix x2) 1 ((setI m 4 r (ix x2) 0 (m.1 r1 4 (ix x2) 0)).1 r1 4 (ix x2) 1)).1 r1 4 (ix x2) 2)).1 r1 4 (ix x2) 3)) 4 r (ix x2) 4 ((setI (setI (setI (setI m 4 r (ix x2) 0 (m.1 r1 4 (ix x2) 0)) 4 r (ix x2) 1 ((setI m 4 r (ix x2) 0 (m.1 r1 4 (ix x2) 0)).1 r1 4 (ix x2) 1)) 4 r (ix x2) 2 ((setI (setI m 4 r (ix x2) 0 (m.1 r1 4 (ix x2) 0)) 4 r (ix x2) 1 ((setI m 4 r (ix x2) 0 (m.1 r1 4 (ix x2) 0)).1 r1 4 (ix x2) 1)).1 r1 4 (ix x2) 2)) 4 r (ix x2) 3 ((setI (setI (setI m 4 r (ix x2) 0 (m.1 r1 4 (ix x2) 0)) 4 r (ix x2) 1 ((setI m 4 r (ix x2) 0 (m.1 r1 4 (ix x2) 0)).1 r1 4 (ix x2) 1)) 4 r (ix x2) 2 ((setI (setI m 4 r (ix x2) 0 (m.1 r1 4 (ix x2) 0)) 4 r (ix x2) 1 ((setI m 4 r (ix x2) 0 (m.1 r1 4 (ix x2) 0)).1 r1 4 (ix x2) 1)).1 r1 4 (ix x2) 2)).1 r1 4 (ix x2) 3)).1 r1 4 (ix x2) 4)).1 r1 4 (ix x2) 5)).1 r1 4 (ix x2) 6)) dX3_copyFrom_50 fl_X3_30 ⟨rfl, rfl, by decide⟩ rfl ?_
    refine Wq.putI dX3_copyFrom_53 fw_X3_30 ⟨rfl, rfl, by decide⟩ ⟨rfl, by decide, by decide⟩ ⟨rfl, rfl⟩ ?_
    refine Wq.aload_n (t := 4) (r := r) (j := (ix x2)) dX3_copyFrom_56 rfl ?_
    refine Wq.aload_n (t := 4) (r := r1) (j := (ix x2)) dX3_copyFrom_57 rfl ?_
    refine Wq.getf (v := pI ((setI (setI (setI (setI (setI (setI (setI m 4 r (ix x2) 0 (m.1 r1 4 (ix x2) 0)) 4 r (ix x2) 1 ((setI m 4 r (ix x2) 0 (m.1 r1 4 (ix x2) 0)).1 r1 4 (ix x2) 1)) 4 r (ix x2) 2 ((setI (setI m 4 r (ix x2) 0 (m.1 r1 4 (ix x2) 0)) 4 r (ix x2) 1 ((setI m 4 r (ix x2) 0 (m.1 r1 4 (ix x2) 0)).1 r1 4 (ix x2) 1)).1 r1 4 (ix x2) 2)) 4 r (ix x2) 3 ((setI (setI (setI m 4 r (ix x2) 0 (m.1 r1 4 (ix x2) 0)) 4 r (ix x2) 1 ((setI m 4 r (ix x2) 0 (m.1 r1 4 (ix x2) 0)).1 r1 4 (ix x2) 1)) 4 r (ix x2) 2 ((setI (setI m 4 r (ix x2) 0 (m.1 r1 4 (ix x2) 0)) 4 r (ix x2) 1 ((setI m 4 r (ix x2) 0 (m.1 r1 4 (ix x2) 0)).1 r1 4 (ix x2) 1)).1 r1 4 (ix x2) 2)).1 r1 4 (ix x2) 3)) 4 r (ix x2) 4 ((setI (setI (setI (setI m 4 r (ix x2) 0 (m.1 r1 4 (ix x2) 0)) 4 r (ix x2) 1 ((setI m 4 r (ix x2) 0 (m.1 r1 4 (ix x2) 0)).1 r1 4 (ix x2) 1)) 4 r (ix x2) 2 ((setI (setI m 4 r (ix x2) 0 (m.1 r1 4 (ix x2) 0)) 4 r (ix x2) 1 ((setI m 4 r (ix x2) 0 (m.1 r1 4 (ix x2) 0)).1 r1 4 (ix x2) 1)).1 r1 4 (ix x2) 2)) 4 r (ix x2) 3 ((setI (setI (setI m 4 r (ix x2) 0 (m.1 r1 4 (ix x2) 0)) 4 r (ix x2) 1 ((setI m 4 r (ix x2) 0 (m.1 r1 4 (ix x2) 0)).1 r1 4 (ix x2) 1)) 4 r (ix x2) 2 ((setI (setI m 4 r (ix x2) 0 (m.1 r1 4 (ix x2) 0)) 4 r (ix x2) 1 ((setI m 4 r (ix x2) 0 (m.1 r1 4 (ix x2) 0)).1 r1 4 (ix x2) 1)).1 r1 4 (ix x2) 2)).1 r1 4 (ix x2) 3)).1 r1 4 (ix x2) 4)) 4 r (ix x2) 5 ((setI (setI (setI (setI (setI m 4 r (ix x2) 0 (m.1 r1 4 (ix x2) 0)) 4 r (ix x2) 1 ((setI m 4 r (ix x2) 0 (m.1 r1 4 (ix x2) 0)).1 r1 4 (ix x2) 1)) 4 r (ix x2) 2 ((setI (setI m 4 r (ix x2) 0 (m.1 r1 4 (ix x2) 0)) 4 r (ix x2) 1 ((setI m 4 r (ix x2) 0 (m.1 r1 4 (ix x2) 0)).1 r1 4 (ix x2) 1)).1 r1 4 (ix x2) 2)) 4 r (ix x2) 3 ((setI (setI (setI m 4 r (ix x2) 0 (m.1 r1 4 (ix x2) 0)) 4 r (ix x2) 1 ((setI m 4 r (ix x2) 0 (m.1 r1 4 (ix x2) 0)).1 r1 4 (ix x2) 1)) 4 r (ix x2) 2 ((setI (setI m 4 r (ix x2) 0 (m.1 r1 4 (ix x2) 0)) 4 r (ix x2) 1 ((setI m 4 r (ix x2) 0 (m.1 r1 4 (ix x2) 0)).1 r1 4 (ix x2) 1)).1 r1 4 (ix x2) 2)).1 r1 4 (ix x2) 3)) 4 r (ix x2) 4 ((setI (setI (setI (setI m 4 r (ix x2) 0 (m.1 r1 4 (ix x2) 0)) 4 r (ix x2) 1 ((setI m 4 r (ix x2) 0 (m.1 r1 4 (ix x2) 0)).1 r1 4 (ix x2) 1)) 4 r (ix x2) 2 ((setI (setI m 4 r (ix x2) 0 (m.1 r1 4 (ix x2) 0)) 4 r (ix x2) 1 ((setI m 4 r (ix x2) 0 (m.1 r1 4 (ix x2) 0)).1 r1 4 (ix x2) 1)).1 r1 4 (ix x2) 2)) 4 r (ix x2) 3 ((setI (setI (setI m 4 r (ix x2) 0 (m.1 r1 4 (ix x2) 0)) 4 r (ix x2) 1 ((setI m 4 r (ix x2) 0 (m.1 r1 4 (ix x2) 0)).1 r1 4 (ix x2) 1)) 4 r (ix x2) 2 ((setI (setI m 4 r (ix x2) 0 (m.1 r1 4 (ix x2) 0)) 4 r (ix x2) 1 ((setI m 4 r (ix x2) 0 (m.1 r1 4 (ix x2) 0)).1 r1 4 (ix x2) 1)).1 r1 4 (ix x2) 2)).1 r1 4 (ix x2) 3)).1 r1 4 (ix x2) 4)).1 r1 4 (ix x2) 5)) 4 r (ix x2) 6 ((setI (setI (setI (setI (setI (setI m 4 r (ix x2) 0 (m.1 r1 4 (ix x2) 0)) 4 r (ix x2) 1 ((setI m 4 r (ix x2) 0 (m.1 r1 4 (ix x2) 0)).1 r1 4 (ix x2) 1)) 4 r (ix x2) 2 ((setI (setI m 4 r (ix x2) 0 (m.1 r1 4 (ix x2) 0)) 4 r (ix x2) 1 ((setI m 4 r (ix x2) 0 (m.1 r1 4 (ix x2) 0)).1 r1 4 (ix x2) 1)).1 r1 4 (ix x2) 2)) 4 r (ix x2) 3 ((setI (setI (setI m 4 r (ix x2) 0 (m.1 r1 4 (ix x2) 0)) 4 r (ix x2) 1 ((setI m 4 r (ix x2) 0 (m.1 r1 4 (ix x2) 0)).1 r1 4 (ix x2) 1)) 4 r (ix x2) 2 ((setI (setI m 4 r (ix x2) 0 (m.1 r1 4 (ix x2) 0)) 4 r (ix x2) 1 ((setI m 4 r (ix x2) 0 (m.1 r1 4 (ix x2) 0)).1 r1 4 (ix x2) 1)).1 r1 4 (ix x2) 2)).1 r1 4 (ix x2) 3)) 4 r (ix x2) 4 ((setI (setI (setI (setI m 4 r (ix x2) 0 (m.1 r1 4 (ix x2) 0)) 4 r (ix x2) 1 ((setI m 4 r (ix x2) 0 (m.1 r1 4 (ix x2) 0)).1 r1 4 (ix x2) 1)) 4 r (ix x2) 2 ((setI (setI m 4 r (ix x2) 0 (m.1 r1 4 (ix x2) 0)) 4 r (ix x2) 1 ((setI m 4 r (ix x2) 0 (m.1 r1 4 (ix x2) 0)).1 r1 4 (ix x2) 1)).1 r1 4 (ix x2) 2)) 4 r (ix x2) 3 ((setI (setI (setI m 4 r (ix x2) 0 (m.1 r1 4 (ix x2) 0)) 4 r (ix x2) 1 ((setI m 4 r (ix x2) 0 (m.1 r1 4 (ix x2) 0)).1 r1 4 (ix x2) 1)) 4 r (ix x2) 2 ((setI (setI m 4 r (ix x2) 0 (m.1 r1 4 (ix x2) 0)) 4 r (ix x2) 1 ((setI m 4 r (ix x2) 0 (m.1 r1 4 (ix x2) 0)).1 r1 4 (ix x2) 1)).1 r1 4 (ix x2) 2)).1 r1 4 (ix x2) 3)).1 r1 4 (ix x2) 4)) 4 r (ix x2) 5 ((setI (setI (setI (setI (setI m 4 r (ix x2) 0 (m.1 r1 4 (ix x2) 0)) 4 r (ix x2) 1 ((setI m 4 r (ix x2) 0 (m.1 r1 4 (ix x2) 0)).1 r1 4 (ix x2) 1)) 4 r (ix x2) 2 ((setI (setI m 4 r (ix x2) 0 (m.1 r1 4 (ix x2) 0)) 4 r (ix x2) 1 ((setI m 4 r (ix x2) 0 (m.1 r1 4 (ix x2) 0)).1 r1 4 (ix x2) 1)).1 r1 4 (ix x2) 2)) 4 r (ix x2) 3 ((setI (setI (setI m 4 r (ix x2) 0 (m.1 r1 4 (ix x2) 0)) 4 r (ix x2) 1 ((setI m 4 r (ix x2) 0 (m.1 r1 4 (ix x2) 0)).1 r1 4 (ix x2) 1)) 4 r (ix x2) 2 ((setI (setI m 4 r (ix x2) 0 (m.1 r1 4 (ix x2) 0)) 4 r (ix x2) 1 ((setI m 4 r (ix x2) 0 (m.1 r1 4 (ix x2) 0)).1 r1 4 (ix x2) 1)).1 r1 4 (ix x2) 2)).1 r1 4 (ix x2) 3)) 4 r (ix x2) 4 ((setI (setI (setI (setI m 4 r (ix x2) 0 (m.1 r1 4 (ix x2) 0)) 4 r (ix x2) 1 ((setI m 4 r (ix x2) 0 (m.1 r1 4 (ix x2) 0)).1 r1 4 (ix x2) 1)) 4 r (ix x2) 2 ((setI (setI m 4 r (ix x2) 0 (m.1 r1 4 (ix x2) 0)) 4 r (ix x2) 1 ((setI m 4 r (ix x2) 0 (m.1 r1 4 (ix x2) 0)).1 r1 4 (ix x2) 1)).1 r1 4 (ix x2) 2)) 4 r (ix x2) 3 ((setI (setI (setI m 4 r (ix x2) 0 (m.1 r1 4 (ix x2) 0)) 4 r (ix x2) 1 ((setI m 4 r (ix x2) 0 (m.1 r1 4 (ix x2) 0)).1 r1 4 (ix x2) 1)) 4 r (ix x2) 2 ((setI (setI m 4 r (ix x2) 0 (m.1 r1 4 (ix x2) 0)) 4 r (ix x2) 1 ((setI m 4 r (ix x2) 0 (m.1 r1 4 (ix x2) 0)).1 r1 4 (ix x2) 1)).1 r1 4 (ix x2) 2)).1 r1 4 (ix x2) 3)).1 r1 4 (ix x2) 4)).1 r1 4 (ix x2) 5)).1 r1 4 (ix x2) 6)).1 r1 4 (ix x2) 7)) dX3_copyFrom_58 fl_X3_33 ⟨rfl, rfl, by decide⟩ rfl ?_
    refine Wq.putI dX3_copyFrom_61 fw_X3_33 ⟨rfl, rfl, by decide⟩ ⟨rfl, by decide, by decide⟩ ⟨rfl, rfl⟩ ?_
    refine Wq.aload_n (t := 4) (r := r) (j := (ix x2)) dX3_copyFrom_64 rfl ?_
    refine Wq.aload_n (t := 4) (r := r1) (j := (ix x2)) dX3_copyFrom_65 rfl ?_
    refine Wq.getf (v := pI ((setI (setI (setI (setI (setI (setI (setI (setI m 4 r (ix x2) 0 (m.1 r1 4 (ix x2) 0)) 4 r (ix x2) 1 ((setI m 4 r (ix x2) 0 (m.1 r1 4 (ix x2) 0)).1 r1 4 (ix x2) 1)) 4 r (ix x2) 2 ((setI (setI m 4 r (ix x2) 0 (m.1 r1 4 (ix x2) 0)) 4 r (ix x2) 1 ((setI m 4 r (ix x2) 0 (m.1 r1 4 (ix x2) 0)).1 r1 4 (ix x2) 1)).1 r1 4 (ix x2) 2)) 4 r (ix x2) 3 ((setI (setI (setI m 4 r (ix x2) 0 (m.1 r1 4 (ix x2) 0)) 4 r (ix x2) 1 ((setI m 4 r (ix x2) 0 (m.1 r1 4 (ix x2) 0)).1 r1 4 (ix x2) 1)) 4 r (ix x2) 2 ((setI (setI m 4 r (ix x2) 0 (m.1 r1 4 (ix x2) 0)) 4 r (ix x2) 1 ((setI m 4 r (ix x2) 0 (m.1 r1 4 (ix x2) 0)).1 r1 4 (ix x2) 1)).1 r1 4 (ix x2) 2)).1 r1 4 (ix x2) 3)) 4 r (ix x2) 4 ((setI (setI (setI (setI m 4 r (ix x2) 0 (m.1 r1 4 (ix x2) 0)) 4 r (ix x2) 1 ((setI m 4 r (ix x2) 0 (m.1 r1 4 (ix x2) 0)).1 r1 4 (ix x2) 1)) 4 r (ix x2) 2 ((setI (setI m 4 r (ix x2) 0 (m.1 r1 4 (ix x2) 0)) 4 r (ix x2) 1 ((setI m 4 r (ix x2) 0 (m.1 r1 4 (ix x2) 0)).1 r1 4 (ix x2) 1)).1 r1 4 (ix x2) 2)) 4 r (ix x2) 3 ((setI (setI (setI m 4 r (ix x2) 0 (m.1 r1 4 (ix x2) 0)) 4 r (ix x2) 1 ((setI m 4 r (ix x2) 0 (m.1 r1 4 (ix x2) 0)).1 r1 4 (ix x2) 1)) 4 r (ix x2) 2 ((setI (setI m 4 r (ix x2) 0 (m.1 r1 4 (ix x2) 0)) 4 r (ix x2) 1 ((setI m 4 r (ix x2) 0 (m.1 r1 4 (ix x2) 0)).1 r1 4 (ix x2) 1)).1 r1 4 (ix x2) 2)).1 r1 4 (ix x2) 3)).1 r1 4 (ix x2) 4)) 4 r (ix x2) 5 ((setI (setI (setI (setI (setI m 4 r (ix x2) 0 (m.1 r1 4 (ix x2) 0)) 4 r (ix x2) 1 ((setI m 4 r (ix x2) 0 (m.1 r1 4 (ix x2) 0)).1 r1 4 (ix x2) 1)) 4 r (ix x2) 2 ((setI (setI m 4 r (ix x2) 0 (m.1 r1 4 (ix x2) 0)) 4 r (ix x2) 1 ((setI m 4 r (ix x2) 0 (m.1 r1 4 (ix x2) 0)).1 r1 4 (ix x2) 1)).1 r1 4 (ix x2) 2)) 4 r (ix x2) 3 ((setI (setI (setI m 4 r (ix x2) 0 (m.1 r1 4 (ix x2) 0)) 4 r (ix x2) 1 ((setI m 4 r (ix x2) 0 (m.1 r1 4 (ix x2) 0)).1 r1 4 (ix x2) 1)) 4 r (ix x2) 2 ((setI (setI m 4 r (ix x2) 0 (m.1 r1 4 (ix x2) 0)) 4 r (ix x2) 1 ((setI m 4 r (ix x2) 0 (m.1 r1 4 (ix x2) 0)).1 r1 4 (ix x2) 1)).1 r1 4 (ix x2) 2)).1 r1 4 (ix x2) 3)) 4 r (ix x2) 4 ((setI (setI (setI (setI m 4 r (ix x2) 0 (m.1 r1 4 (ix x2) 0)) 4 r (ix x2) 1 ((setI m 4 r (ix x2) 0 (m.1 r1 4 (ix x2) 0)).1 r1 4 (ix x2) 1)) 4 r (ix x2) 2 ((setI (setI m 4 r (ix x2) 0 (m.1 r1 4 (ix x2) 0)) 4 r (ix x2) 1 ((setI m 4 r (ix x2) 0 (m.1 r1 4 (ix x2) 0)).1 r1 4 (ix x2) 1)).1 r1 4 (ix x2) 2)) 4 r (ix x2) 3 ((setI (setI (setI m 4 r (ix x2) 0 (m.1 r1 4 (ix x2) 0)) 4 r (ix x2) 1 ((setI m 4 r (ix x2) 0 (m.1 r1 4 (ix x2) 0)).1 r1 4 (ix x2) 1)) 4 r (ix x2) 2 ((setI (setI m 4 r (ix x2) 0 (m.1 r1 4 (ix x2) 0)) 4 r (ix x2) 1 ((setI m 4 r (ix x2) 0 (m.1 r1 4 (ix x2) 0)).1 r1 4 (ix x2) 1)).1 r1 4 (ix x2) 2)).1 r1 4 (ix x2) 3)).1 r1 4 (ix x2) 4)).1 r1 4 (ix x2) 5)) 4 r (ix x2) 6 ((setI (setI (setI (setI (setI (setI m 4 r (ix x2) 0 (m.1 r1 4 (ix x2) 0)) 4 r (ix x2) 1 ((setI m 4 r (ix x2) 0 (m.1 r1 4 (ix x2) 0)).1 r1 4 (ix x2) 1)) 4 r (ix x2) 2 ((setI (setI m 4 r (ix x2) 0 (m.1 r1 4 (ix x2) 0)) 4 r (ix x2) 1 ((setI m 4 r (ix x2) 0 (m.1 r1 4 (ix x2) 0)).1 r1 4 (ix x2) 1)).1 r1 4 (ix x2) 2)) 4 r (ix x2) 3 ((setI (setI (setI m 4 r (ix x2) 0 (m.1 r1 4 (ix x2) 0)) 4 r (ix x2) 1 ((setI m 4 r (ix x2) 0 (m.1 r1 4 (ix x2) 0)).1 r1 4 (ix x2) 1)) 4 r (ix x2) 2 ((setI (setI m 4 r (ix x2) 0 (m.1 r1 4 (ix x2) 0)) 4 r (ix x2) 1 ((setI m 4 r (ix x2) 0 (m.1 r1 4 (ix x2) 0)).1 r1 4 (ix x2) 1)).1 r1 4 (ix x2) 2)).1 r1 4 (ix x2) 3)) 4 r (ix x2) 4 ((setI (setI (setI (setI m 4 r (ix x2) 0 (m.1 r1 4 (ix x2) 0)) 4 r (ix x2) 1 ((setI m 4 r (ix x2) 0 (m.1 r1 4 (ix x2) 0)).1 r1 4 (ix x2) 1)) 4 r (ix x2) 2 ((setI (setI m 4 r (ix x2) 0 (m.1 r1 4 (ix x2) 0)) 4 r (ix x2) 1 ((setI m 4 r (ix x2) 0 (m.1 r1 4 (ix x2) 0)).1 r1 4 (ix x2) 1)).1 r1 4 (ix x2) 2)) 4 r (ix x2) 3 ((setI (setI (setI m 4 r (ix x2) 0 (m.1 r1 4 (ix x2) 0)) 4 r (ix x2) 1 ((setI m 4 r (ix x2) 0 (m.1 r1 4 (ix x2) 0)).1 r1 4 (ix x2) 1)) 4 r (ix x2) 2 ((setI (setI m 4 r (ix x2) 0 (m.1 r1 4 (ix x2) 0)) 4 r (ix x2) 1 ((setI m 4 r (ix x2) 0 (m.1 r1 4 (ix x2) 0)).1 r1 4 (ix x2) 1)).1 r1 4 (ix x2) 2)).1 r1 4 (ix x2) 3)).1 r1 4 (ix x2) 4)) 4 r (ix x2) 5 ((setI (setI (setI (setI (setI m 4 r (ix x2) 0 (m.1 r1 4 (ix x2) 0)) 4 r (ix x2) 1 ((setI m 4 r (ix x2) 0 (m.1 r1 4 (ix x2) 0)).1 r1 4 (ix x2) 1)) 4 r (ix x2) 2 ((setI (setI m 4 r (ix x2) 0 (m.1 r1 4 (ix x2) 0)) 4 r (ix x2) 1 ((setI m 4 r (ix x2) 0 (m.1 r1 4 (ix x2) 0)).1 r1 4 (ix x2) 1)).1 r1 4 (ix x2) 2)) 4 r (ix x2) 3 ((setI (setI (setI m 4 r (ix x2) 0 (m.1 r1 4 (ix x2) 0)) 4 r (ix x2) 1 ((setI m 4 r (ix x2) 0 (m.1 r1 4 (ix x2) 0)).1 r1 4 (ix x2) 1)) 4 r (ix x2) 2 ((setI (setI m 4 r (ix x2) 0 (m.1 r1 4 (ix x2) 0)) 4 r (ix x2) 1 ((setI m 4 r (ix x2) 0 (m.1 r1 4 (ix x2) 0)).1 r1 4 (ix x2) 1)).1 r1 4 (ix x2) 2)).1 r1 4 (ix x2) 3)) 4 r (ix x2) 4 ((setI (setI (setI (setI m 4 r (ix x2) 0 (m.1 r1 4 (ix x2) 0)) 4 r (ix x2) 1 ((setI m 4 r (ix x2) 0 (m.1 r1 4 (ix x2) 0)).1 r1 4 (ix x2) 1)) 4 r (ix x2) 2 ((setI (setI m 4 r (ix x2) 0 (m.1 r1 4 (ix x2) 0)) 4 r (ix x2) 1 ((setI m 4 r (ix x2) 0 (m.1 r1 4 (ix x2) 0)).1 r1 4 (ix x2) 1)).1 r1 4 (ix x2) 2)) 4 r (ix x2) 3 ((setI (setI (setI m 4 r (ix x2) 0 (m.1 r1 4 (ix x2) 0)) 4 r (ix x2) 1 ((setI m 4 r (ix x2) 0 (m.1 r1 4 (ix x2) 0)).1 r1 4 (ix x2) 1)) 4 r (ix x2) 2 ((setI (setI m 4 r (ix x2) 0 (m.1 r1 4 (ix x2) 0)) 4 r (ix x2) 1 ((setI m 4 r (ix x2) 0 (m.1 r1 4 (ix x2) 0)).1 r1 4 (ix x2) 1)).1 r1 4 (ix x2) 2)).1 r1 4 (ix x2) 3)).1 r1 4 (ix x2) 4)).1 r1 4 (ix x2) 5)).1 r1 4 (ix x2) 6)) 4 r (ix x2) 7 ((setI (setI (setI (setI (setI (setI (setI m 4 r (ix x2) 0 (m.1 r1 4 (ix x2) 0)) 4 r (ix x2) 1 ((setI m 4 r (ix x2) 0 (m.1 r1 4 (ix x2) 0)).1 r1 4 (ix x2) 1)) 4 r (ix x2) 2 ((setI (setI m 4 r (ix x2) 0 (m.1 r1 4 (ix x2) 0)) 4 r (ix x2) 1 ((setI m 4 r (ix x2) 0 (m.1 r1 4 (ix x2) 0)).1 r1 4 (ix x2) 1)).1 r1 4 (ix x2) 2)) 4 r (ix x2) 3 ((setI (setI (setI m 4 r (ix x2) 0 (m.1 r1 4 (ix x2) 0)) 4 r (ix x2) 1 ((setI m 4 r (ix x2) 0 (m.1 r1 4 (ix x2) 0)).1 r1 4 (ix x2) 1)) 4 r (ix x2) 2 ((setI (setI m 4 r (ix x2) 0 (m.1 r1 4 (ix x2) 0)) 4 r (ix x2) 1 ((setI m 4 r (ix x2) 0 (m.1 r1 4 (ix x2) 0)).1 r1 4 (ix x2) 1)).1 r1 4 (ix x2) 2)).1 r1 4 (ix x2) 3)) 4 r (ix x2) 4 ((setI (setI (setI (setI m 4 r (ix x2) 0 (m.1 r1 4 (ix x2) 0)) 4 r (ix x2) 1 ((setI m 4 r (ix x2) 0 (m.1 r1 4 (ix x2) 0)).1 r1 4 (ix x2) 1)) 4 r (ix x2) 2 ((setI (setI m 4 r (ix x2) 0 (m.1 r1 4 (ix x2) 0)) 4 r (ix x2) 1 ((setI m 4 r (ix x2) 0 (m.1 r1 4 (ix x2) 0)).1 r1 4 (ix x2) 1)).1 r1 4 (ix x2) 2)) 4 r (ix x2) 3 ((setI (setI (setI m 4 r (ix x2) 0 (m.1 r1 4 (ix x2) 0)) 4 r (ix x2) 1 ((setI m 4 r (ix x2) 0 (m.1 r1 4 (ix x2) 0)).1 r1 4 (ix x2) 1)) 4 r (ix x2) 2 ((setI (setI m 4 r (ix x2) 0 (m.1 r1 4 (ix x2) 0)) 4 r (ix x2) 1 ((setI m 4 r (ix x2) 0 (m.1 r1 4 (ix x2) 0)).1 r1 4 (ix x2) 1)).1 r1 4 (ix x2) 2)).1 r1 4 (ix x2) 3)).1 r1 4 (ix x2) 4)) 4 r (ix x2) 5 ((setI (setI (setI (setI (setI m 4 r (ix x2) 0 (m.1 r1 4 (ix x2) 0)) 4 r (ix x2) 1 ((setI m 4 r (ix x2) 0 (m.1 r1 4 (ix x2) 0)).1 r1 4 (ix x2) 1)) 4 r (ix x2) 2 ((setI (setI m 4 r (ix x2) 0 (m.1 r1 4 (ix x2) 0)) 4 r (ix x2) 1 ((setI m 4 r (ix x2) 0 (m.1 r1 4 (ix x2) 0)).1 r1 4 (ix x2) 1)).1 r1 4 (ix x2) 2)) 4 r (ix x2) 3 ((setI (setI (setI m 4 r (ix x2) 0 (m.1 r1 4 (ix x2) 0)) 4 r (ix x2) 1 ((setI m 4 r (ix x2) 0 (m.1 r1 4 (ix x2) 0)).1 r1 4 (ix x2) 1)) 4 r (ix x2) 2 ((setI (setI m 4 r (ix x2) 0 (m.1 r1 4 (ix x2) 0)) 4 r (ix x2) 1 ((setI m 4 r (ix x2) 0 (m.1 r1 4 (ix x2) 0)).1 r1 4 (ix x2) 1)).1 r1 4 (ix x2) 2)).1 r1 4 (ix x2) 3)) 4 r (ix x2) 4 ((setI (setI (setI (setI m 4 r (ix x2) 0 (m.1 r1 4 (ix x2) 0)) 4 r (ix x2) 1 ((setI m 4 r (ix x2) 0 (m.1 r1 4 (ix x2) 0)).1 r1 4 (ix x2) 1)) 4 r (ix x2) 2 ((setI (setI m 4 r (ix x2) 0 (m.1 r1 4 (ix x2) 0)) 4 r (ix x2) 1 ((setI m 4 r (ix x2) 0 (m.1 r1 4 (ix x2) 0)).1 r1 4 (ix x2) 1)).1 r1 4 (ix x2) 2)) 4 r (ix x2) 3 ((setI (setI (setI m 4 r (ix x2) 0 (m.1 r1 4 (ix x2) 0)) 4 r (ix x2) 1 ((setI m 4 r (ix x2) 0 (m.1 r1 4 (ix x2) 0)).1 r1 4 (ix x2) 1)) 4 r (ix x2) 2 ((setI (setI m 4 r (ix x2) 0 (m.1 r1 4 (ix x2) 0)) 4 r (ix x2) 1 ((setI m 4 r (ix x2) 0 (m.1 r1 4 (ix x2) 0)).1 r1 4 (ix x2) 1)).1 r1 4 (ix x2) 2)).1 r1 4 (ix x2) 3)).1 r1 4 (ix x2) 4)).1 r1 4 (ix x2) 5)) 4 r (ix x2) 6 ((setI (setI (setI (setI (setI (setI m 4 r (ix x2) 0 (m.1 r1 4 (ix x2) 0)) 4 r (ix x2) 1 ((setI m 4 r (ix x2) 0 (m.1 r1 4 (ix x2) 0)).1 r1 4 (ix x2) 1)) 4 r (ix x2) 2 ((setI (setI m 4 r (ix x2) 0 (m.1 r1 4 (ix x2) 0)) 4 r (ix x2) 1 ((setI m 4 r (ix x2) 0 (m.1 r1 4 (ix x2) 0)).1 r1 4 (ix x2) 1)).1 r1 4 (ix x2) 2)) 4 r (ix x2) 3 ((setI (setI (setI m 4 r (ix x2) 0 (m.1 r1 4 (ix x2) 0)) 4 r (ix x2) 1 ((setI m 4 r (ix x2) 0 (m.1 r1 4 (ix x2) 0)).1 r1 4 (ix x2) 1)) 4 r (ix x2) 2 ((setI (setI m 4 r (ix x2) 0 (m.1 r1 4 (ix x2) 0)) 4 r (ix x2) 1 ((setI m 4 r (ix x2) 0 (m.1 r1 4 (ix x2) 0)).1 r1 4 (ix x2) 1)).1 r1 4 (ix x2) 2)).1 r1 4 (ix x2) 3)) 4 r (ix x2) 4 ((setI (setI (setI (setI m 4 r (ix x2) 0 (m.1 r1 4 (ix x2) 0)) 4 r (ix x2) 1 ((setI m 4 r (ix x2) 0 (m.1 r1 4 (ix x2) 0)).1 r1 4 (ix x2) 1)) 4 r (ix x2) 2 ((setI (setI m 4 r (ix x2) 0 (m.1 r1 4 (ix x2) 0)) 4 r (ix x2) 1 ((setI m 4 r (ix x2) 0 (m.1 r1 4 (ix x2) 0)).1 r1 4 (ix x2) 1)).1 r1 4 (ix x2) 2)) 4 r (ix x2) 3 ((setI (setI (setI m 4 r (ix x2) 0 (m.1 r1 4 (ix x2) 0)) 4 r (ix x2) 1 ((setI m 4 r (ix x2) 0 (m.1 r1 4 (ix x2) 0)).1 r1 4 (ix x2) 1)) 4 r (ix x2) 2 ((setI (setI m 4 r (ix x2) 0 (m.1 r1 4 (ix x2) 0)) 4 r (ix x2) 1 ((setI m 4 r (ix x2) 0 (m.1 r1 4 (ix x2) 0)).1 r1 4 (ix x2) 1)).1 r1 4 (ix x2) 2)).1 r1 4 (ix x2) 3)).1 r1 4 (ix x2) 4)) 4 r (ix x2) 5 ((setI (setI (setI (setI (setI m 4 r (ix x2) 0 (m.1 r1 4 (ix x2) 0)) 4 r (ix x2) 1 ((setI m 4 r (ix x2) 0 (m.1 r1 4 (ix x2) 0)).1 r1 4 (ix x2) 1)) 4 r (ix x2) 2 ((setI (setI m 4 r (ix x2) 0 (m.1 r1 4 (ix x2) 0)) 4 r (ix x2) 1 ((setI m 4 r (ix x2) 0 (m.1 r1 4 (ix x2) 0)).1 r1 4 (ix x2) 1)).1 r1 4 (ix x2) 2)) 4 r (ix x2) 3 ((setI (setI (setI m 4 r (ix x2) 0 (m.1 r1 4 (ix x2) 0)) 4 r (ix x2) 1 ((setI m 4 r (ix x2) 0 (m.1 r1 4 (ix x2) 0)).1 r1 4 (ix x2) 1)) 4 r (ix x2) 2 ((setI (setI m 4 r (ix x2) 0 (m.1 r1 4 (ix x2) 0)) 4 r (ix x2) 1 ((setI m 4 r (ix x2) 0 (m.1 r1 4 (ix x2) 0)).1 r1 4 (ix x2) 1)).1 r1 4 (ix x2) 2)).1 r1 4 (ix x2) 3)) 4 r (ix x2) 4 ((setI (setI (setI (setI m 4 r (ix x2) 0 (m.1 r1 4 (ix x2) 0)) 4 r (ix x2) 1 ((setI m 4 r (ix x2) 0 (m.1 r1 4 (ix x2) 0)).1 r1 4 (ix x2) 1)) 4 r (ix x2) 2 ((setI (setI m 4 r (ix x2) 0 (m.1 r1 4 (ix x2) 0)) 4 r (ix x2) 1 ((setI m 4 r (ix x2) 0 (m.1 r1 4 (ix x2) 0)).1 r1 4 (ix x2) 1)).1 r1 4 (ix x2) 2)) 4 r (ix x2) 3 ((setI (setI (setI m 4 r (ix x2) 0 (m.1 r1 4 (ix x2) 0)) 4 r (ix x2) 1 ((setI m 4 r (ix x2) 0 (m.1 r1 4 (ix x2) 0)).1 r1 4 (ix x2) 1)) 4 r (ix x2) 2 ((setI (setI m 4 r (ix x2) 0 (m.1 r1 4 (ix x2) 0)) 4 r (ix x2) 1 ((setI m 4 r (ix x2) 0 (m.1 r1 4 (ix x2) 0)).1 r1 4 (ix x2) 1)).1 r1 4 (ix x2) 2)).1 r1 4 (ix x2) 3)).1 r1 4 (ix x2) 4)).1 r1 4 (ix x2) 5)).1 r1 4 (ix x2) 6)).1 r1 4 (ix x2) 7)).1 r1 4 (ix x2) 8)) dX3_copyFrom_66 fl_X3_36 ⟨rfl, rfl, by decide⟩ rfl ?_
    refine Wq.putI dX3_copyFrom_69 fw_X3_36 ⟨rfl, rfl, by decide⟩ ⟨rfl, by decide, by decide⟩ ⟨rfl, rfl⟩ ?_
    refine Wq.vretV dX3_copyFrom_72 rfl ?_
    refine Wq.iinc (x := x2) (ls2 := [some (pO 0 r 0), some (pO 0 r1 0), some (pI (x2 + 1))]) dX1_copyFrom_102 rfl (by decide) rfl ?_
    refine Wq.goto (tgt := 78) dX1_copyFrom_105 (by decide) ?_
    exact h
set_option maxHeartbeats 4000000 in
set_option maxRecDepth 20000 in
theorem sgX1_copyFrom_110 {g : GG} {d : Nat} {c n : Nat} {m : PM} {Q : Ou → PM → Nat → Nat → Prop} {r : Nat} {r1 : Nat} {x2 : Int32} (h : ((4 ≤ x2 → Q (.inl none) m c n) ∧ (¬ 4 ≤ x2 → (vp_in x2 4 ∧ (vp_in x2 4 ∧ Wq g (d + 2) MX1_copyFrom c n 110 [some (pO 0 r 0), some (pO 0 r1 0), some (pI (x2 + 1))] [] (setI (setI (setR m 6 r (ix x2) (va_cpy (m.1 r1 6 (ix x2)) (m.1 r 6 (ix x2)) (ix 0) (ix 0) (ix 4))) 5 r (ix x2) 1 ((setR m 6 r (ix x2) (va_cpy (m.1 r1 6 (ix x2)) (m.1 r 6 (ix x2)) (ix 0) (ix 0) (ix 4))).1 r1 5 (ix x2) 1)) 5 r (ix x2) 2 ((setI (setR m 6 r (ix x2) (va_cpy (m.1 r1 6 (ix x2)) (m.1 r 6 (ix x2)) (ix 0) (ix 0) (ix 4))) 5 r (ix x2) 1 ((setR m 6 r (ix x2) (va_cpy (m.1 r1 6 (ix x2)) (m.1 r 6 (ix x2)) (ix 0) (ix 0) (ix 4))).1 r1 5 (ix x2) 1)).1 r1 5 (ix x2) 2)) Q))))) : Wq g (d + 2) MX1_copyFrom c n 110 [some (pO 0 r 0), some (pO 0 r1 0), some (pI x2)] [] m Q := by
  refine Wq.iload_n (x := x2) dX1_copyFrom_110 rfl ?_
  refine Wq.aload_n (t := 0) (r := r) (j := 0) dX1_copyFrom_111 rfl ?_
  refine Wq.getf (v := pO 8 r 0) dX1_copyFrom_112 fl_X1_45 ⟨rfl, rfl, by decide⟩ rfl ?_
  refine Wq.alen (v := 4) dX1_copyFrom_115 rfl (by decide) rfl ?_
  refine Wq.icmpge (tgt := 140) dX1_copyFrom_116 (by decide) (fun q1 => ?_) (fun q1 => ?_)
  · replace h := h.1 q1
    exact Wq.vret dX1_copyFrom_140 rfl h
  · replace h := h.2 q1
    refine Wq.aload_n (t := 0) (r := r) (j := 0) dX1_copyFrom_119 rfl ?_
    refine Wq.getf (v := pO 8 r 0) dX1_copyFrom_120 fl_X1_45 ⟨rfl, rfl, by decide⟩ rfl ?_
    refine Wq.iload_n (x := x2) dX1_copyFrom_123 rfl ?_
    refine Wq.aaldE dX1_copyFrom_124 h.1 ?_
    replace h := h.2
    refine Wq.aload_n (t := 0) (r := r1) (j := 0) dX1_copyFrom_125 rfl ?_
    refine Wq.getf (v := pO 8 r1 0) dX1_copyFrom_126 fl_X1_45 ⟨rfl, rfl, by decide⟩ rfl ?_
    refine Wq.iload_n (x := x2) dX1_copyFrom_129 rfl ?_
    refine Wq.aaldE dX1_copyFrom_130 h.1 ?_
    replace h := h.2
    refine Wq.callVV (As := [pO 5 r1 (ix x2)]) dX1_copyFrom_131 fX0_copyFrom ml_X1_70 rfl (by decide) rfl (Nat.le_of_ble_eq_true rfl) (Nat.le_of_ble_eq_true rfl) ?_ (fun _ h9 => h9)
    refine Wq.few (ls' := [some (pO 5 r (ix x2)), some (pO 5 r1 (ix x2))]) ⟨rfl, ⟨rfl, trivial⟩⟩ ?_
    refine Wq.aload_n (t := 5) (r := r1) (j := (ix x2)) dX0_copyFrom_0 rfl ?_
    refine Wq.getf (v := pO 6 r1 (ix x2)) dX0_copyFrom_1 fl_X0_9 ⟨rfl, rfl, by decide⟩ rfl ?_
    refine Wq.iconst (v := 0) dX0_copyFrom_4 (by decide) ?_
    refine Wq.aload_n (t := 5) (r := r) (j := (ix x2)) dX0_copyFrom_5 rfl ?_
    refine Wq.getf (v := pO 6 r (ix x2)) dX0_copyFrom_6 fl_X0_9 ⟨rfl, rfl, by decide⟩ rfl ?_
    refine Wq.iconst (v := 0) dX0_copyFrom_9 (by decide) ?_
    refine Wq.aload_n (t := 5) (r := r) (j := (ix x2)) dX0_copyFrom_10 rfl ?_
    refine Wq.getf (v := pO 6 r (ix x2)) dX0_copyFrom_11 fl_X0_9 ⟨rfl, rfl, by decide⟩ rfl ?_
    refine Wq.alen (v := 4) dX0_copyFrom_14 rfl (by decide) rfl ?_
    refine Wq.copy dX0_copyFrom_15 ml_X0_22 acw rfl rfl (by decide) (by decide) (by decide) (by decide) (by decide) (Nat.le_of_ble_eq_true rfl) ?_
    refine Wq.aload_n (t := 5) (r := r) (j := (ix x2)) dX0_copyFrom_18 rfl ?_
    refine Wq.aload_n (t := 5) (r := r1) (j := (ix x2)) dX0_copyFrom_19 rfl ?_
    refine Wq.getf (v := pI ((setR m 6 r (ix x2) (va_cpy (m.1 r1 6 (ix x2)) (m.1 r 6 (ix x2)) (ix 0) (ix 0) (ix 4))).1 r1 5 (ix x2) 1)) dX0_copyFrom_20 fl_X0_15 ⟨rfl, rfl, by decide⟩ rfl ?_
    refine Wq.putI dX0_copyFrom_23 fw_X0_15 ⟨rfl, rfl, by decide⟩ ⟨rfl, by decide, by decide⟩ ⟨rfl, rfl⟩ ?_
    refine Wq.aload_n (t := 5) (r := r) (j := (ix x2)) dX0_copyFrom_26 rfl ?_
    refine Wq.aload_n (t := 5) (r := r1) (j := (ix x2)) dX0_copyFrom_27 rfl ?_
    refine Wq.getf (v := pI ((setI (setR m 6 r (ix x2) (va_cpy (m.1 r1 6 (ix x2)) (m.1 r 6 (ix x2)) (ix 0) (ix 0) (ix 4))) 5 r (ix x2) 1 ((setR m 6 r (ix x2) (va_cpy (m.1 r1 6 (ix x2)) (m.1 r 6 (ix x2)) (ix 0) (ix 0) (ix 4))).1 r1 5 (ix x2) 1)).1 r1 5 (ix x2) 2)) dX0_copyFrom_28 fl_X0_19 ⟨rfl, rfl, by decide⟩ rfl ?_
    refine Wq.putI dX0_copyFrom_31 fw_X0_19 ⟨rfl, rfl, by decide⟩ ⟨rfl, by decide, by decide⟩ ⟨rfl, rfl⟩ ?_
    refine Wq.vretV dX0_copyFrom_34 rfl ?_
    refine Wq.iinc (x := x2) (ls2 := [some (pO 0 r 0), some (pO 0 r1 0), some (pI (x2 + 1))]) dX1_copyFrom_134 rfl (by decide) rfl ?_
    refine Wq.goto (tgt := 110) dX1_copyFrom_137 (by decide) ?_
    exact h
set_option maxHeartbeats 4000000 in
set_option maxRecDepth 20000 in
theorem sgX1_mayBeTested {g : GG} {d : Nat} {c n : Nat} {m : PM} {Q : Ou → PM → Nat → Nat → Prop} {r : Nat} {x1 : Int32} (h : Wp g (d + 1) MX1_cellOf 0 [some (pO 0 r 0), some (pI x1)] [] m (cI fun r1 m2 => ((¬ ((if ¬ r1 = (-1) then (if (0 : Int32) = 0 then (r1 / 16) else (if (0 : Int32) = 1 then (irm (r1 / 4) 4) else (irm r1 4))) else (-1)) : Int32) = 0 → Q (.inl (some (pI 0))) m2 c n) ∧ (((if ¬ r1 = (-1) then (if (0 : Int32) = 0 then (r1 / 16) else (if (0 : Int32) = 1 then (irm (r1 / 4) 4) else (irm r1 4))) else (-1)) : Int32) = 0 → Q (.inl (some (pI 1))) m2 c n)))) : Wq g (d + 2) MX1_mayBeTested c n 0 [some (pO 0 r 0), some (pI x1)] [] m Q := by
  refine Wq.few (ls' := [some (pO 0 r 0), some (pI x1)]) ⟨rfl, ⟨rfl, trivial⟩⟩ ?_
  refine Wq.aload_n (t := 0) (r := r) (j := 0) dX1_mayBeTested_0 rfl ?_
  refine Wq.iload_n (x := x1) dX1_mayBeTested_1 rfl ?_
  refine Wq.callVI (As := [pI x1]) dX1_mayBeTested_2 fX1_cellOf ml_X1_95 rfl (by decide) rfl (Nat.le_of_ble_eq_true rfl) (Nat.le_of_ble_eq_true rfl) h (fun r1 m2 h => ?_)
  refine Wq.iconst (v := 0) dX1_mayBeTested_5 (by decide) ?_
  refine Wq.callNI (As := [pI r1, pI 0]) dX1_mayBeTested_6 fX4_partOfCell nl_X1_99 rfl (Nat.le_of_ble_eq_true rfl) (Nat.le_of_ble_eq_true rfl) (suX4_partOfCell trivial) (fun x4 m9 e9 => ?_)
  obtain ⟨rfl, rfl⟩ := e9
  refine Wq.ifne (tgt := 16) dX1_mayBeTested_9 (by decide) (fun q3 => ?_) (fun q3 => ?_)
  · replace h := h.1 q3
    refine Wq.iconst (v := 0) dX1_mayBeTested_16 (by decide) ?_
    exact Wq.iret dX1_mayBeTested_17 (⟨_, rfl, by decide⟩) h
  · replace h := h.2 q3
    refine Wq.iconst (v := 1) dX1_mayBeTested_12 (by decide) ?_
    refine Wq.goto (tgt := 17) dX1_mayBeTested_13 (by decide) ?_
    exact Wq.iret dX1_mayBeTested_17 (⟨_, rfl, by decide⟩) h
set_option maxHeartbeats 4000000 in
set_option maxRecDepth 20000 in
theorem sgX1_holdTest {g : GG} {d : Nat} {c n : Nat} {m : PM} {Q : Ou → PM → Nat → Nat → Prop} {r : Nat} {x1 : Int32} {x2 : Int32} (h : (vp_in x1 12 ∧ Wp g (d + 1) MX1_cellOf 0 [some (pO 0 r 0), some (pI x1)] [] m (cI fun r1 m2 => ((¬ r1 = (-1) → Wp g (d + 1) MX1_routeFor 0 [some (pO 0 r 0), some (pI x1), some (pI (irm r1 4))] [] m2 (cI fun r4 m5 => (vp_in r1 160 ∧ (vp_in (irm r1 4) 4 ∧ (vp_in r4 4 ∧ (vp_in r4 4 ∧ ((x2 = 0 → Q (.inl (some (pI r4))) (setI (setI (setI (setI (setI (setI (setI m5 2 r 0 (ix r1) (-2)) 6 r (ix (irm r1 4)) (ix r4) (((setI m5 2 r 0 (ix r1) (-2)).1 r 6 (ix (irm r1 4)) (ix r4)) + 1)) 4 r (ix x1) 3 r4) 4 r (ix x1) 4 (irm r1 4)) 4 r (ix x1) 1 (((setI (setI (setI (setI m5 2 r 0 (ix r1) (-2)) 6 r (ix (irm r1 4)) (ix r4) (((setI m5 2 r 0 (ix r1) (-2)).1 r 6 (ix (irm r1 4)) (ix r4)) + 1)) 4 r (ix x1) 3 r4) 4 r (ix x1) 4 (irm r1 4)).1 r 4 (ix x1) 1) + 1)) 4 r (ix x1) 0 0) 4 r (ix x1) 2 (((setI (setI (setI (setI (setI (setI m5 2 r 0 (ix r1) (-2)) 6 r (ix (irm r1 4)) (ix r4) (((setI m5 2 r 0 (ix r1) (-2)).1 r 6 (ix (irm r1 4)) (ix r4)) + 1)) 4 r (ix x1) 3 r4) 4 r (ix x1) 4 (irm r1 4)) 4 r (ix x1) 1 (((setI (setI (setI (setI m5 2 r 0 (ix r1) (-2)) 6 r (ix (irm r1 4)) (ix r4) (((setI m5 2 r 0 (ix r1) (-2)).1 r 6 (ix (irm r1 4)) (ix r4)) + 1)) 4 r (ix x1) 3 r4) 4 r (ix x1) 4 (irm r1 4)).1 r 4 (ix x1) 1) + 1)) 4 r (ix x1) 0 0).1 r 0 0 0) + (if 60 < (((setI (setI (setI (setI (setI (setI m5 2 r 0 (ix r1) (-2)) 6 r (ix (irm r1 4)) (ix r4) (((setI m5 2 r 0 (ix r1) (-2)).1 r 6 (ix (irm r1 4)) (ix r4)) + 1)) 4 r (ix x1) 3 r4) 4 r (ix x1) 4 (irm r1 4)) 4 r (ix x1) 1 (((setI (setI (setI (setI m5 2 r 0 (ix r1) (-2)) 6 r (ix (irm r1 4)) (ix r4) (((setI m5 2 r 0 (ix r1) (-2)).1 r 6 (ix (irm r1 4)) (ix r4)) + 1)) 4 r (ix x1) 3 r4) 4 r (ix x1) 4 (irm r1 4)).1 r 4 (ix x1) 1) + 1)) 4 r (ix x1) 0 0).1 r 1 0 (ix 0)) * ((setI (setI (setI (setI (setI (setI m5 2 r 0 (ix r1) (-2)) 6 r (ix (irm r1 4)) (ix r4) (((setI m5 2 r 0 (ix r1) (-2)).1 r 6 (ix (irm r1 4)) (ix r4)) + 1)) 4 r (ix x1) 3 r4) 4 r (ix x1) 4 (irm r1 4)) 4 r (ix x1) 1 (((setI (setI (setI (setI m5 2 r 0 (ix r1) (-2)) 6 r (ix (irm r1 4)) (ix r4) (((setI m5 2 r 0 (ix r1) (-2)).1 r 6 (ix (irm r1 4)) (ix r4)) + 1)) 4 r (ix x1) 3 r4) 4 r (ix x1) 4 (irm r1 4)).1 r 4 (ix x1) 1) + 1)) 4 r (ix x1) 0 0).1 r 4 (ix x1) 1)) then 60 else (((setI (setI (setI (setI (setI (setI m5 2 r 0 (ix r1) (-2)) 6 r (ix (irm r1 4)) (ix r4) (((setI m5 2 r 0 (ix r1) (-2)).1 r 6 (ix (irm r1 4)) (ix r4)) + 1)) 4 r (ix x1) 3 r4) 4 r (ix x1) 4 (irm r1 4)) 4 r (ix x1) 1 (((setI (setI (setI (setI m5 2 r 0 (ix r1) (-2)) 6 r (ix (irm r1 4)) (ix r4) (((setI m5 2 r 0 (ix r1) (-2)).1 r 6 (ix (irm r1 4)) (ix r4)) + 1)) 4 r (ix x1) 3 r4) 4 r (ix x1) 4 (irm r1 4)).1 r 4 (ix x1) 1) + 1)) 4 r (ix x1) 0 0).1 r 1 0 (ix 0)) * ((setI (setI (setI (setI (setI (setI m5 2 r 0 (ix r1) (-2)) 6 r (ix (irm r1 4)) (ix r4) (((setI m5 2 r 0 (ix r1) (-2)).1 r 6 (ix (irm r1 4)) (ix r4)) + 1)) 4 r (ix x1) 3 r4) 4 r (ix x1) 4 (irm r1 4)) 4 r (ix x1) 1 (((setI (setI (setI (setI m5 2 r 0 (ix r1) (-2)) 6 r (ix (irm r1 4)) (ix r4) (((setI m5 2 r 0 (ix r1) (-2)).1 r 6 (ix (irm r1 4)) (ix r4)) + 1)) 4 r (ix x1) 3 r4) 4 r (ix x1) 4 (irm r1 4)).1 r 4 (ix x1) 1) + 1)) 4 r (ix x1) 0 0).1 r 4 (ix x1) 1))))) c n) ∧ (¬ x2 = 0 → (vp_in (irm r1 4) 4 ∧ Q (.inl (some (pI r4))) (setI (setI (setI (setI (setI (setI m5 2 r 0 (ix r1) (-2)) 6 r (ix (irm r1 4)) (ix r4) (((setI m5 2 r 0 (ix r1) (-2)).1 r 6 (ix (irm r1 4)) (ix r4)) + 1)) 4 r (ix x1) 3 r4) 4 r (ix x1) 4 (irm r1 4)) 5 r (ix (irm r1 4)) 1 (((setI (setI (setI (setI m5 2 r 0 (ix r1) (-2)) 6 r (ix (irm r1 4)) (ix r4) (((setI m5 2 r 0 (ix r1) (-2)).1 r 6 (ix (irm r1 4)) (ix r4)) + 1)) 4 r (ix x1) 3 r4) 4 r (ix x1) 4 (irm r1 4)).1 r 5 (ix (irm r1 4)) 1) + 1)) 4 r (ix x1) 0 3) c n))))))))) ∧ (r1 = (-1) → Q (.inl (some (pI (-1)))) m2 c n))))) : Wq g (d + 2) MX1_holdTest c n 0 [some (pO 0 r 0), some (pI x1), some (pI x2)] [] m Q := by
  refine Wq.few (ls' := [some (pO 0 r 0), some (pI x1), some (pI x2), none, none, none, none]) ⟨rfl, ⟨rfl, ⟨rfl, trivial⟩⟩⟩ ?_
  refine Wq.aload_n (t := 0) (r := r) (j := 0) dX1_holdTest_0 rfl ?_
  refine Wq.getf (v := pO 7 r 0) dX1_holdTest_1 fl_X1_39 ⟨rfl, rfl, by decide⟩ rfl ?_
  refine Wq.iload_n (x := x1) dX1_holdTest_4 rfl ?_
  refine Wq.aaldP dX1_holdTest_5 h.1 ?_
  replace h := h.2
  refine Wq.astore_n (ls2 := [some (pO 0 r 0), some (pI x1), some (pI x2), some (pO 4 r (ix x1)), none, none, none]) dX1_holdTest_6 (by decide) rfl ?_
  refine Wq.aload_n (t := 0) (r := r) (j := 0) dX1_holdTest_7 rfl ?_
  refine Wq.iload_n (x := x1) dX1_holdTest_8 rfl ?_
  refine Wq.callVI (As := [pI x1]) dX1_holdTest_9 fX1_cellOf ml_X1_95 rfl (by decide) rfl (Nat.le_of_ble_eq_true rfl) (Nat.le_of_ble_eq_true rfl) h (fun r1 m2 h => ?_)
  refine Wq.istore (ls2 := [some (pO 0 r 0), some (pI x1), some (pI x2), some (pO 4 r (ix x1)), some (pI r1), none, none]) dX1_holdTest_12 (by decide) rfl ?_
  refine Wq.iload (x := r1) dX1_holdTest_14 rfl ?_
  refine Wq.iconst (v := (-1)) dX1_holdTest_16 (by decide) ?_
  refine Wq.icmpne (tgt := 22) dX1_holdTest_17 (by decide) (fun q3 => ?_) (fun q3 => ?_)
  · replace h := h.1 q3
    refine Wq.iload (x := r1) dX1_holdTest_22 rfl ?_
    refine Wq.callNI (As := [pI r1]) dX1_holdTest_24 fX4_examinerAt nl_X1_120 rfl (Nat.le_of_ble_eq_true rfl) (Nat.le_of_ble_eq_true rfl) (suX4_examinerAt trivial) (fun x7 m9 e9 => ?_)
    obtain ⟨rfl, rfl⟩ := e9
    refine Wq.istore (ls2 := [some (pO 0 r 0), some (pI x1), some (pI x2), some (pO 4 r (ix x1)), some (pI r1), some (pI (irm r1 4)), none]) dX1_holdTest_27 (by decide) rfl ?_
    refine Wq.aload_n (t := 0) (r := r) (j := 0) dX1_holdTest_29 rfl ?_
    refine Wq.iload_n (x := x1) dX1_holdTest_30 rfl ?_
    refine Wq.iload (x := (irm r1 4)) dX1_holdTest_31 rfl ?_
    refine Wq.callVI (As := [pI x1, pI (irm r1 4)]) dX1_holdTest_33 fX1_routeFor ml_X1_123 rfl (by decide) rfl (Nat.le_of_ble_eq_true rfl) (Nat.le_of_ble_eq_true rfl) h (fun r4 m5 h => ?_)
    refine Wq.istore (ls2 := [some (pO 0 r 0), some (pI x1), some (pI x2), some (pO 4 r (ix x1)), some (pI r1), some (pI (irm r1 4)), some (pI r4)]) dX1_holdTest_36 (by decide) rfl ?_
    refine Wq.aload_n (t := 0) (r := r) (j := 0) dX1_holdTest_38 rfl ?_
    refine Wq.getf (v := pO 2 r 0) dX1_holdTest_39 fl_X1_34 ⟨rfl, rfl, by decide⟩ rfl ?_
    refine Wq.iload (x := r1) dX1_holdTest_42 rfl ?_
    refine Wq.bipush (v := (-2)) dX1_holdTest_44 (by decide) ?_
    refine Wq.iast dX1_holdTest_46 rfl h.1 ?_
    replace h := h.2
    refine Wq.aload_n (t := 0) (r := r) (j := 0) dX1_holdTest_47 rfl ?_
    refine Wq.getf (v := pO 8 r 0) dX1_holdTest_48 fl_X1_45 ⟨rfl, rfl, by decide⟩ rfl ?_
    refine Wq.iload (x := (irm r1 4)) dX1_holdTest_51 rfl ?_
    refine Wq.aaldE dX1_holdTest_53 h.1 ?_
    replace h := h.2
    refine Wq.getf (v := pO 6 r (ix (irm r1 4))) dX1_holdTest_54 fl_X1_126 ⟨rfl, rfl, by decide⟩ rfl ?_
    refine Wq.iload (x := r4) dX1_holdTest_57 rfl ?_
    refine Wq.dup2 dX1_holdTest_59 rfl rfl ?_
    refine Wq.iald dX1_holdTest_60 rfl h.1 ?_
    replace h := h.2
    refine Wq.iconst (v := 1) dX1_holdTest_61 (by decide) ?_
    refine Wq.iadd dX1_holdTest_62 ?_
    refine Wq.iast dX1_holdTest_63 rfl h.1 ?_
    replace h := h.2
    refine Wq.aload_n (t := 4) (r := r) (j := (ix x1)) dX1_holdTest_64 rfl ?_
    refine Wq.iload (x := r4) dX1_holdTest_65 rfl ?_
    refine Wq.putI dX1_holdTest_67 fw_X1_129 ⟨rfl, rfl, by decide⟩ ⟨rfl, by decide, by decide⟩ ⟨rfl, rfl⟩ ?_
    refine Wq.aload_n (t := 4) (r := r) (j := (ix x1)) dX1_holdTest_70 rfl ?_
    refine Wq.iload (x := (irm r1 4)) dX1_holdTest_71 rfl ?_
    refine Wq.putI dX1_holdTest_73 fw_X1_132 ⟨rfl, rfl, by decide⟩ ⟨rfl, by decide, by decide⟩ ⟨rfl, rfl⟩ ?_
    refine Wq.iload_n (x := x2) dX1_holdTest_76 rfl ?_
    refine Wq.ifeq (tgt := 104) dX1_holdTest_77 (by decide) (fun q6 => ?_) (fun q6 => ?_)
    · replace h := h.1 q6
      refine Wq.aload_n (t := 4) (r := r) (j := (ix x1)) dX1_holdTest_104 rfl ?_
      refine Wq.dup dX1_holdTest_105 rfl ?_
      refine Wq.getf (v := pI ((setI (setI (setI (setI m5 2 r 0 (ix r1) (-2)) 6 r (ix (irm r1 4)) (ix r4) (((setI m5 2 r 0 (ix r1) (-2)).1 r 6 (ix (irm r1 4)) (ix r4)) + 1)) 4 r (ix x1) 3 r4) 4 r (ix x1) 4 (irm r1 4)).1 r 4 (ix x1) 1)) dX1_holdTest_106 fl_X1_138 ⟨rfl, rfl, by decide⟩ rfl ?_
      refine Wq.iconst (v := 1) dX1_holdTest_109 (by decide) ?_
      refine Wq.iadd dX1_holdTest_110 ?_
      refine Wq.putI dX1_holdTest_111 fw_X1_138 ⟨rfl, rfl, by decide⟩ ⟨rfl, by decide, by decide⟩ ⟨rfl, rfl⟩ ?_
      refine Wq.aload_n (t := 4) (r := r) (j := (ix x1)) dX1_holdTest_114 rfl ?_
      refine Wq.iconst (v := 0) dX1_holdTest_115 (by decide) ?_
      refine Wq.putI dX1_holdTest_116 fw_X1_83 ⟨rfl, rfl, by decide⟩ ⟨rfl, by decide, by decide⟩ ⟨rfl, rfl⟩ ?_
      refine Wq.aload_n (t := 4) (r := r) (j := (ix x1)) dX1_holdTest_119 rfl ?_
      refine Wq.aload_n (t := 0) (r := r) (j := 0) dX1_holdTest_120 rfl ?_
      refine Wq.getf (v := pI ((setI (setI (setI (setI (setI (setI m5 2 r 0 (ix r1) (-2)) 6 r (ix (irm r1 4)) (ix r4) (((setI m5 2 r 0 (ix r1) (-2)).1 r 6 (ix (irm r1 4)) (ix r4)) + 1)) 4 r (ix x1) 3 r4) 4 r (ix x1) 4 (irm r1 4)) 4 r (ix x1) 1 (((setI (setI (setI (setI m5 2 r 0 (ix r1) (-2)) 6 r (ix (irm r1 4)) (ix r4) (((setI m5 2 r 0 (ix r1) (-2)).1 r 6 (ix (irm r1 4)) (ix r4)) + 1)) 4 r (ix x1) 3 r4) 4 r (ix x1) 4 (irm r1 4)).1 r 4 (ix x1) 1) + 1)) 4 r (ix x1) 0 0).1 r 0 0 0)) dX1_holdTest_121 fl_X1_9 ⟨rfl, rfl, by decide⟩ rfl ?_
      refine Wq.aload_n (t := 0) (r := r) (j := 0) dX1_holdTest_124 rfl ?_
      refine Wq.getf (v := pO 1 r 0) dX1_holdTest_125 fl_X1_31 ⟨rfl, rfl, by decide⟩ rfl ?_
      refine Wq.iconst (v := 0) dX1_holdTest_128 (by decide) ?_
      refine Wq.iald dX1_holdTest_129 rfl (vp_dec rfl) ?_
      refine Wq.aload_n (t := 4) (r := r) (j := (ix x1)) dX1_holdTest_130 rfl ?_
      refine Wq.getf (v := pI ((setI (setI (setI (setI (setI (setI m5 2 r 0 (ix r1) (-2)) 6 r (ix (irm r1 4)) (ix r4) (((setI m5 2 r 0 (ix r1) (-2)).1 r 6 (ix (irm r1 4)) (ix r4)) + 1)) 4 r (ix x1) 3 r4) 4 r (ix x1) 4 (irm r1 4)) 4 r (ix x1) 1 (((setI (setI (setI (setI m5 2 r 0 (ix r1) (-2)) 6 r (ix (irm r1 4)) (ix r4) (((setI m5 2 r 0 (ix r1) (-2)).1 r 6 (ix (irm r1 4)) (ix r4)) + 1)) 4 r (ix x1) 3 r4) 4 r (ix x1) 4 (irm r1 4)).1 r 4 (ix x1) 1) + 1)) 4 r (ix x1) 0 0).1 r 4 (ix x1) 1)) dX1_holdTest_131 fl_X1_138 ⟨rfl, rfl, by decide⟩ rfl ?_
      refine Wq.imul dX1_holdTest_134 ?_
      refine Wq.bipush (v := 60) dX1_holdTest_135 (by decide) ?_
      refine Wq.mmin dX1_holdTest_137 ml_X1_141 mmw (Nat.le_of_ble_eq_true rfl) ?_
      refine Wq.iadd dX1_holdTest_140 ?_
      refine Wq.putI dX1_holdTest_141 fw_X1_80 ⟨rfl, rfl, by decide⟩ ⟨rfl, by decide, by decide⟩ ⟨rfl, rfl⟩ ?_
      refine Wq.iload (x := r4) dX1_holdTest_144 rfl ?_
      exact Wq.iret dX1_holdTest_146 (⟨_, rfl, rfl⟩) h
    · replace h := h.2 q6
      refine Wq.aload_n (t := 0) (r := r) (j := 0) dX1_holdTest_80 rfl ?_
      refine Wq.getf (v := pO 8 r 0) dX1_holdTest_81 fl_X1_45 ⟨rfl, rfl, by decide⟩ rfl ?_
      refine Wq.iload (x := (irm r1 4)) dX1_holdTest_84 rfl ?_
      refine Wq.aaldE dX1_holdTest_86 h.1 ?_
      replace h := h.2
      refine Wq.dup dX1_holdTest_87 rfl ?_
      refine Wq.getf (v := pI ((setI (setI (setI (setI m5 2 r 0 (ix r1) (-2)) 6 r (ix (irm r1 4)) (ix r4) (((setI m5 2 r 0 (ix r1) (-2)).1 r 6 (ix (irm r1 4)) (ix r4)) + 1)) 4 r (ix x1) 3 r4) 4 r (ix x1) 4 (irm r1 4)).1 r 5 (ix (irm r1 4)) 1)) dX1_holdTest_88 fl_X1_135 ⟨rfl, rfl, by decide⟩ rfl ?_
      refine Wq.iconst (v := 1) dX1_holdTest_91 (by decide) ?_
      refine Wq.iadd dX1_holdTest_92 ?_
      refine Wq.putI dX1_holdTest_93 fw_X1_135 ⟨rfl, rfl, by decide⟩ ⟨rfl, by decide, by decide⟩ ⟨rfl, rfl⟩ ?_
      refine Wq.aload_n (t := 4) (r := r) (j := (ix x1)) dX1_holdTest_96 rfl ?_
      refine Wq.iconst (v := 3) dX1_holdTest_97 (by decide) ?_
      refine Wq.putI dX1_holdTest_98 fw_X1_83 ⟨rfl, rfl, by decide⟩ ⟨rfl, by decide, by decide⟩ ⟨rfl, rfl⟩ ?_
      refine Wq.goto (tgt := 144) dX1_holdTest_101 (by decide) ?_
      refine Wq.iload (x := r4) dX1_holdTest_144 rfl ?_
      exact Wq.iret dX1_holdTest_146 (⟨_, rfl, rfl⟩) h
  · replace h := h.2 q3
    refine Wq.iconst (v := (-1)) dX1_holdTest_20 (by decide) ?_
    exact Wq.iret dX1_holdTest_21 (⟨_, rfl, rfl⟩) h
set_option maxHeartbeats 4000000 in
set_option maxRecDepth 20000 in
theorem sgX1_giveSlotsOut {g : GG} {d : Nat} {c n : Nat} {m : PM} {Q : Ou → PM → Nat → Nat → Prop} {r : Nat} (h : Wp g (d + 1) MJ7_fill_53178 0 [some (pO 3 r 0), some (pI (-1))] [] m (cV fun m2 => Wq g (d + 2) MX1_giveSlotsOut c n 10 [some (pO 0 r 0), some (pI 0), none, none] [] m2 Q)) : Wq g (d + 2) MX1_giveSlotsOut c n 0 [some (pO 0 r 0)] [] m Q := by
  refine Wq.few (ls' := [some (pO 0 r 0), none, none, none]) ⟨rfl, trivial⟩ ?_
  refine Wq.aload_n (t := 0) (r := r) (j := 0) dX1_giveSlotsOut_0 rfl ?_
  refine Wq.getf (v := pO 3 r 0) dX1_giveSlotsOut_1 fl_X1_49 ⟨rfl, rfl, by decide⟩ rfl ?_
  refine Wq.iconst (v := (-1)) dX1_giveSlotsOut_4 (by decide) ?_
  refine Wq.callSV (As := [pO 3 r 0, pI (-1)]) dX1_giveSlotsOut_5 fJ7_fill_53178 ml_X1_58 rfl (Nat.le_of_ble_eq_true rfl) (Nat.le_of_ble_eq_true rfl) h (fun m2 h => ?_)
  refine Wq.iconst (v := 0) dX1_giveSlotsOut_8 (by decide) ?_
  refine Wq.istore_n (ls2 := [some (pO 0 r 0), some (pI 0), none, none]) dX1_giveSlotsOut_9 (by decide) rfl ?_
  exact h
set_option maxHeartbeats 4000000 in
set_option maxRecDepth 20000 in
theorem sgX1_giveSlotsOut_10 {g : GG} {d : Nat} {c n : Nat} {m : PM} {Q : Ou → PM → Nat → Nat → Prop} {r : Nat} {x1 : Int32} (h : (((m.1 r 0 0 2) ≤ x1 → Wq g (d + 2) MX1_giveSlotsOut c n 52 [some (pO 0 r 0), some (pI 0), none, none] [] m Q) ∧ (¬ (m.1 r 0 0 2) ≤ x1 → Wp g (d + 1) MX1_placeInQueue 0 [some (pO 0 r 0), some (pI x1)] [] m (cI fun r2 m3 => ((r2 < 0 → Wq g (d + 2) MX1_giveSlotsOut c n 10 [some (pO 0 r 0), some (pI (x1 + 1)), none, none] [] m3 Q) ∧ (¬ r2 < 0 → ((12 ≤ r2 → Wq g (d + 2) MX1_giveSlotsOut c n 10 [some (pO 0 r 0), some (pI (x1 + 1)), none, none] [] m3 Q) ∧ (¬ 12 ≤ r2 → (vp_in r2 12 ∧ Wq g (d + 2) MX1_giveSlotsOut c n 10 [some (pO 0 r 0), some (pI (x1 + 1)), none, none] [] (setI m3 3 r 0 (ix r2) x1) Q))))))))) : Wq g (d + 2) MX1_giveSlotsOut c n 10 [some (pO 0 r 0), some (pI x1), none, none] [] m Q := by
  refine Wq.iload_n (x := x1) dX1_giveSlotsOut_10 rfl ?_
  refine Wq.aload_n (t := 0) (r := r) (j := 0) dX1_giveSlotsOut_11 rfl ?_
  refine Wq.getf (v := pI (m.1 r 0 0 2)) dX1_giveSlotsOut_12 fl_X1_18 ⟨rfl, rfl, by decide⟩ rfl ?_
  refine Wq.icmpge (tgt := 50) dX1_giveSlotsOut_15 (by decide) (fun q1 => ?_) (fun q1 => ?_)
  · replace h := h.1 q1
    refine Wq.iconst (v := 0) dX1_giveSlotsOut_50 (by decide) ?_
    refine Wq.istore_n (ls2 := [some (pO 0 r 0), some (pI 0), none, none]) dX1_giveSlotsOut_51 (by decide) rfl ?_
    exact h
  · replace h := h.2 q1
    refine Wq.aload_n (t := 0) (r := r) (j := 0) dX1_giveSlotsOut_18 rfl ?_
    refine Wq.iload_n (x := x1) dX1_giveSlotsOut_19 rfl ?_
    refine Wq.callVI (As := [pI x1]) dX1_giveSlotsOut_20 fX1_placeInQueue ml_X1_149 rfl (by decide) rfl (Nat.le_of_ble_eq_true rfl) (Nat.le_of_ble_eq_true rfl) h (fun r2 m3 h => ?_)
    refine Wq.istore_n (ls2 := [some (pO 0 r 0), some (pI x1), some (pI r2), none]) dX1_giveSlotsOut_23 (by decide) rfl ?_
    refine Wq.iload_n (x := r2) dX1_giveSlotsOut_24 rfl ?_
    refine Wq.iflt (tgt := 44) dX1_giveSlotsOut_25 (by decide) (fun q4 => ?_) (fun q4 => ?_)
    · replace h := h.1 q4
      refine Wq.iinc (x := x1) (ls2 := [some (pO 0 r 0), some (pI (x1 + 1)), some (pI r2), none]) dX1_giveSlotsOut_44 rfl (by decide) rfl ?_
      refine Wq.goto (tgt := 10) dX1_giveSlotsOut_47 (by decide) ?_
      refine Wq.few (ls' := [some (pO 0 r 0), some (pI (x1 + 1)), none, none]) ⟨rfl, ⟨rfl, trivial⟩⟩ ?_
      exact h
    · replace h := h.2 q4
      refine Wq.iload_n (x := r2) dX1_giveSlotsOut_28 rfl ?_
      refine Wq.aload_n (t := 0) (r := r) (j := 0) dX1_giveSlotsOut_29 rfl ?_
      refine Wq.getf (v := pO 3 r 0) dX1_giveSlotsOut_30 fl_X1_49 ⟨rfl, rfl, by decide⟩ rfl ?_
      refine Wq.alen (v := 12) dX1_giveSlotsOut_33 rfl (by decide) rfl ?_
      refine Wq.icmpge (tgt := 44) dX1_giveSlotsOut_34 (by decide) (fun q5 => ?_) (fun q5 => ?_)
      · replace h := h.1 q5
        refine Wq.iinc (x := x1) (ls2 := [some (pO 0 r 0), some (pI (x1 + 1)), some (pI r2), none]) dX1_giveSlotsOut_44 rfl (by decide) rfl ?_
        refine Wq.goto (tgt := 10) dX1_giveSlotsOut_47 (by decide) ?_
        refine Wq.few (ls' := [some (pO 0 r 0), some (pI (x1 + 1)), none, none]) ⟨rfl, ⟨rfl, trivial⟩⟩ ?_
        exact h
      · replace h := h.2 q5
        refine Wq.aload_n (t := 0) (r := r) (j := 0) dX1_giveSlotsOut_37 rfl ?_
        refine Wq.getf (v := pO 3 r 0) dX1_giveSlotsOut_38 fl_X1_49 ⟨rfl, rfl, by decide⟩ rfl ?_
        refine Wq.iload_n (x := r2) dX1_giveSlotsOut_41 rfl ?_
        refine Wq.iload_n (x := x1) dX1_giveSlotsOut_42 rfl ?_
        refine Wq.iast dX1_giveSlotsOut_43 rfl h.1 ?_
        replace h := h.2
        refine Wq.iinc (x := x1) (ls2 := [some (pO 0 r 0), some (pI (x1 + 1)), some (pI r2), none]) dX1_giveSlotsOut_44 rfl (by decide) rfl ?_
        refine Wq.goto (tgt := 10) dX1_giveSlotsOut_47 (by decide) ?_
        refine Wq.few (ls' := [some (pO 0 r 0), some (pI (x1 + 1)), none, none]) ⟨rfl, ⟨rfl, trivial⟩⟩ ?_
        exact h
set_option maxHeartbeats 4000000 in
set_option maxRecDepth 20000 in
theorem sgX1_giveSlotsOut_52 {g : GG} {d : Nat} {c n : Nat} {m : PM} {Q : Ou → PM → Nat → Nat → Prop} {r : Nat} {x1 : Int32} (h : ((12 ≤ x1 → Q (.inl none) m c n) ∧ (¬ 12 ≤ x1 → (vp_in x1 12 ∧ ((¬ ((¬ (m.1 r 3 0 (ix x1)) < 0) ∧ (¬ (m.1 r 0 0 2) ≤ (m.1 r 3 0 (ix x1)))) → Q (.inl none) m c n) ∧ ((¬ (m.1 r 3 0 (ix x1)) < 0) ∧ (¬ (m.1 r 0 0 2) ≤ (m.1 r 3 0 (ix x1))) → (vp_in x1 12 ∧ Wp g (d + 1) MX1_earliestCell 0 [some (pO 0 r 0), some (pI (m.1 r 3 0 (ix x1)))] [] m (cI fun r3 m4 => ((r3 = (-1) → Wq g (d + 2) MX1_giveSlotsOut c n 52 [some (pO 0 r 0), some (pI (x1 + 1)), none, none] [] m4 Q) ∧ (¬ r3 = (-1) → (vp_in r3 160 ∧ (vp_in (m.1 r 3 0 (ix x1)) 12 ∧ Wq g (d + 2) MX1_giveSlotsOut c n 52 [some (pO 0 r 0), some (pI (x1 + 1)), none, none] [] (setI (setI m4 2 r 0 (ix r3) (m.1 r 3 0 (ix x1))) 4 r (ix (m.1 r 3 0 (ix x1))) 0 2) Q)))))))))))) : Wq g (d + 2) MX1_giveSlotsOut c n 52 [some (pO 0 r 0), some (pI x1), none, none] [] m Q := by
  refine Wq.iload_n (x := x1) dX1_giveSlotsOut_52 rfl ?_
  refine Wq.aload_n (t := 0) (r := r) (j := 0) dX1_giveSlotsOut_53 rfl ?_
  refine Wq.getf (v := pO 3 r 0) dX1_giveSlotsOut_54 fl_X1_49 ⟨rfl, rfl, by decide⟩ rfl ?_
  refine Wq.alen (v := 12) dX1_giveSlotsOut_57 rfl (by decide) rfl ?_
  refine Wq.icmpge (tgt := 115) dX1_giveSlotsOut_58 (by decide) (fun q1 => ?_) (fun q1 => ?_)
  · replace h := h.1 q1
    exact Wq.vret dX1_giveSlotsOut_115 rfl h
  · replace h := h.2 q1
    refine Wq.aload_n (t := 0) (r := r) (j := 0) dX1_giveSlotsOut_61 rfl ?_
    refine Wq.aload_n (t := 0) (r := r) (j := 0) dX1_giveSlotsOut_62 rfl ?_
    refine Wq.getf (v := pO 3 r 0) dX1_giveSlotsOut_63 fl_X1_49 ⟨rfl, rfl, by decide⟩ rfl ?_
    refine Wq.iload_n (x := x1) dX1_giveSlotsOut_66 rfl ?_
    refine Wq.iald dX1_giveSlotsOut_67 rfl h.1 ?_
    replace h := h.2
    refine Wq.callVI (As := [pI (m.1 r 3 0 (ix x1))]) dX1_giveSlotsOut_68 fX1_hasPupil ml_X1_110 rfl (by decide) rfl (Nat.le_of_ble_eq_true rfl) (Nat.le_of_ble_eq_true rfl) (suX1_hasPupil trivial) (fun x6 m9 e9 => ?_)
    obtain ⟨rfl, rfl⟩ := e9
    refine Wq.ifeq (tgt := 115) dX1_giveSlotsOut_71 (by decide) (fun q2 => ?_) (fun q2 => ?_)
    · replace h := h.1 (bI_0 q2)
      exact Wq.vret dX1_giveSlotsOut_115 rfl h
    · replace h := h.2 (bI_1 q2)
      refine Wq.aload_n (t := 0) (r := r) (j := 0) dX1_giveSlotsOut_74 rfl ?_
      refine Wq.getf (v := pO 3 r 0) dX1_giveSlotsOut_75 fl_X1_49 ⟨rfl, rfl, by decide⟩ rfl ?_
      refine Wq.iload_n (x := x1) dX1_giveSlotsOut_78 rfl ?_
      refine Wq.iald dX1_giveSlotsOut_79 rfl h.1 ?_
      replace h := h.2
      refine Wq.istore_n (ls2 := [some (pO 0 r 0), some (pI x1), some (pI (m.1 r 3 0 (ix x1))), none]) dX1_giveSlotsOut_80 (by decide) rfl ?_
      refine Wq.aload_n (t := 0) (r := r) (j := 0) dX1_giveSlotsOut_81 rfl ?_
      refine Wq.iload_n (x := (m.1 r 3 0 (ix x1))) dX1_giveSlotsOut_82 rfl ?_
      refine Wq.callVI (As := [pI (m.1 r 3 0 (ix x1))]) dX1_giveSlotsOut_83 fX1_earliestCell ml_X1_152 rfl (by decide) rfl (Nat.le_of_ble_eq_true rfl) (Nat.le_of_ble_eq_true rfl) h (fun r3 m4 h => ?_)
      refine Wq.istore_n (ls2 := [some (pO 0 r 0), some (pI x1), some (pI (m.1 r 3 0 (ix x1))), some (pI r3)]) dX1_giveSlotsOut_86 (by decide) rfl ?_
      refine Wq.iload_n (x := r3) dX1_giveSlotsOut_87 rfl ?_
      refine Wq.iconst (v := (-1)) dX1_giveSlotsOut_88 (by decide) ?_
      refine Wq.icmpeq (tgt := 109) dX1_giveSlotsOut_89 (by decide) (fun q5 => ?_) (fun q5 => ?_)
      · replace h := h.1 q5
        refine Wq.iinc (x := x1) (ls2 := [some (pO 0 r 0), some (pI (x1 + 1)), some (pI (m.1 r 3 0 (ix x1))), some (pI r3)]) dX1_giveSlotsOut_109 rfl (by decide) rfl ?_
        refine Wq.goto (tgt := 52) dX1_giveSlotsOut_112 (by decide) ?_
        refine Wq.few (ls' := [some (pO 0 r 0), some (pI (x1 + 1)), none, none]) ⟨rfl, ⟨rfl, trivial⟩⟩ ?_
        exact h
      · replace h := h.2 q5
        refine Wq.aload_n (t := 0) (r := r) (j := 0) dX1_giveSlotsOut_92 rfl ?_
        refine Wq.getf (v := pO 2 r 0) dX1_giveSlotsOut_93 fl_X1_34 ⟨rfl, rfl, by decide⟩ rfl ?_
        refine Wq.iload_n (x := r3) dX1_giveSlotsOut_96 rfl ?_
        refine Wq.iload_n (x := (m.1 r 3 0 (ix x1))) dX1_giveSlotsOut_97 rfl ?_
        refine Wq.iast dX1_giveSlotsOut_98 rfl h.1 ?_
        replace h := h.2
        refine Wq.aload_n (t := 0) (r := r) (j := 0) dX1_giveSlotsOut_99 rfl ?_
        refine Wq.getf (v := pO 7 r 0) dX1_giveSlotsOut_100 fl_X1_39 ⟨rfl, rfl, by decide⟩ rfl ?_
        refine Wq.iload_n (x := (m.1 r 3 0 (ix x1))) dX1_giveSlotsOut_103 rfl ?_
        refine Wq.aaldP dX1_giveSlotsOut_104 h.1 ?_
        replace h := h.2
        refine Wq.iconst (v := 2) dX1_giveSlotsOut_105 (by decide) ?_
        refine Wq.putI dX1_giveSlotsOut_106 fw_X1_83 ⟨rfl, rfl, by decide⟩ ⟨rfl, by decide, by decide⟩ ⟨rfl, rfl⟩ ?_
        refine Wq.iinc (x := x1) (ls2 := [some (pO 0 r 0), some (pI (x1 + 1)), some (pI (m.1 r 3 0 (ix x1))), some (pI r3)]) dX1_giveSlotsOut_109 rfl (by decide) rfl ?_
        refine Wq.goto (tgt := 52) dX1_giveSlotsOut_112 (by decide) ?_
        refine Wq.few (ls' := [some (pO 0 r 0), some (pI (x1 + 1)), none, none]) ⟨rfl, ⟨rfl, trivial⟩⟩ ?_
        exact h
set_option maxHeartbeats 4000000 in
set_option maxRecDepth 20000 in
theorem sgX1_pupilsNotKeptTo {g : GG} {d : Nat} {c n : Nat} {m : PM} {Q : Ou → PM → Nat → Nat → Prop} {r : Nat} {x1 : Int32} {x2 : Int32} (h : Wq g (d + 2) MX1_pupilsNotKeptTo c n 5 [some (pO 0 r 0), some (pI x1), some (pI x2), some (pI 0), some (pI 0), none, none] [] m Q) : Wq g (d + 2) MX1_pupilsNotKeptTo c n 0 [some (pO 0 r 0), some (pI x1), some (pI x2)] [] m Q := by
  refine Wq.few (ls' := [some (pO 0 r 0), some (pI x1), some (pI x2), none, none, none, none]) ⟨rfl, ⟨rfl, ⟨rfl, trivial⟩⟩⟩ ?_
  refine Wq.iconst (v := 0) dX1_pupilsNotKeptTo_0 (by decide) ?_
  refine Wq.istore_n (ls2 := [some (pO 0 r 0), some (pI x1), some (pI x2), some (pI 0), none, none, none]) dX1_pupilsNotKeptTo_1 (by decide) rfl ?_
  refine Wq.iconst (v := 0) dX1_pupilsNotKeptTo_2 (by decide) ?_
  refine Wq.istore (ls2 := [some (pO 0 r 0), some (pI x1), some (pI x2), some (pI 0), some (pI 0), none, none]) dX1_pupilsNotKeptTo_3 (by decide) rfl ?_
  exact h
set_option maxHeartbeats 4000000 in
set_option maxRecDepth 20000 in
theorem sgX1_pupilsNotKeptTo_5 {g : GG} {d : Nat} {c n : Nat} {m : PM} {Q : Ou → PM → Nat → Nat → Prop} {r : Nat} {x1 : Int32} {x2 : Int32} {x3 : Int32} {x4 : Int32} (h : (((m.1 r 0 0 2) ≤ x4 → Q (.inl (some (pI x3))) m c n) ∧ (¬ (m.1 r 0 0 2) ≤ x4 → (vp_in x4 12 ∧ (((m.1 r 4 (ix x4) 0) = 0 → ((vp_in x4 12 ∧ True) ∧ ((¬ (¬ ((m.1 r 0 0 0) + x2) < (m.1 r 4 (ix x4) 2)) → Wq g (d + 2) MX1_pupilsNotKeptTo c n 5 [some (pO 0 r 0), some (pI x1), some (pI x2), some (pI x3), some (pI (x4 + 1)), none, none] [] m Q) ∧ (¬ ((m.1 r 0 0 0) + x2) < (m.1 r 4 (ix x4) 2) → Wp g (d + 1) MX1_mayMeetOutside 0 [some (pO 0 r 0), some (pI x4), some (pI x1)] [] m (cI fun r4 m5 => ((r4 = 0 → Wq g (d + 2) MX1_pupilsNotKeptTo c n 5 [some (pO 0 r 0), some (pI x1), some (pI x2), some (pI x3), some (pI (x4 + 1)), none, none] [] m5 Q) ∧ (¬ r4 = 0 → Wq g (d + 2) MX1_pupilsNotKeptTo c n 5 [some (pO 0 r 0), some (pI x1), some (pI x2), some (pI (x3 + 1)), some (pI (x4 + 1)), none, none] [] m5 Q))))))) ∧ (¬ (m.1 r 4 (ix x4) 0) = 0 → ((¬ (m.1 r 4 (ix x4) 0) = 1 → Wq g (d + 2) MX1_pupilsNotKeptTo c n 5 [some (pO 0 r 0), some (pI x1), some (pI x2), some (pI x3), some (pI (x4 + 1)), none, none] [] m Q) ∧ ((m.1 r 4 (ix x4) 0) = 1 → ((vp_in x4 12 ∧ True) ∧ ((¬ (¬ ((m.1 r 0 0 0) + x2) < (m.1 r 4 (ix x4) 2)) → Wq g (d + 2) MX1_pupilsNotKeptTo c n 5 [some (pO 0 r 0), some (pI x1), some (pI x2), some (pI x3), some (pI (x4 + 1)), none, none] [] m Q) ∧ (¬ ((m.1 r 0 0 0) + x2) < (m.1 r 4 (ix x4) 2) → Wp g (d + 1) MX1_mayMeetOutside 0 [some (pO 0 r 0), some (pI x4), some (pI x1)] [] m (cI fun r10 m11 => ((r10 = 0 → Wq g (d + 2) MX1_pupilsNotKeptTo c n 5 [some (pO 0 r 0), some (pI x1), some (pI x2), some (pI x3), some (pI (x4 + 1)), none, none] [] m11 Q) ∧ (¬ r10 = 0 → Wq g (d + 2) MX1_pupilsNotKeptTo c n 5 [some (pO 0 r 0), some (pI x1), some (pI x2), some (pI (x3 + 1)), some (pI (x4 + 1)), none, none] [] m11 Q)))))))))))))) : Wq g (d + 2) MX1_pupilsNotKeptTo c n 5 [some (pO 0 r 0), some (pI x1), some (pI x2), some (pI x3), some (pI x4), none, none] [] m Q := by
  refine Wq.iload (x := x4) dX1_pupilsNotKeptTo_5 rfl ?_
  refine Wq.aload_n (t := 0) (r := r) (j := 0) dX1_pupilsNotKeptTo_7 rfl ?_
  refine Wq.getf (v := pI (m.1 r 0 0 2)) dX1_pupilsNotKeptTo_8 fl_X1_18 ⟨rfl, rfl, by decide⟩ rfl ?_
  refine Wq.icmpge (tgt := 78) dX1_pupilsNotKeptTo_11 (by decide) (fun q1 => ?_) (fun q1 => ?_)
  · replace h := h.1 q1
    refine Wq.iload_n (x := x3) dX1_pupilsNotKeptTo_78 rfl ?_
    exact Wq.iret dX1_pupilsNotKeptTo_79 (⟨_, rfl, rfl⟩) h
  · replace h := h.2 q1
    refine Wq.aload_n (t := 0) (r := r) (j := 0) dX1_pupilsNotKeptTo_14 rfl ?_
    refine Wq.getf (v := pO 7 r 0) dX1_pupilsNotKeptTo_15 fl_X1_39 ⟨rfl, rfl, by decide⟩ rfl ?_
    refine Wq.iload (x := x4) dX1_pupilsNotKeptTo_18 rfl ?_
    refine Wq.aaldP dX1_pupilsNotKeptTo_20 h.1 ?_
    replace h := h.2
    refine Wq.getf (v := pI (m.1 r 4 (ix x4) 0)) dX1_pupilsNotKeptTo_21 fl_X1_83 ⟨rfl, rfl, by decide⟩ rfl ?_
    refine Wq.istore (ls2 := [some (pO 0 r 0), some (pI x1), some (pI x2), some (pI x3), some (pI x4), some (pI (m.1 r 4 (ix x4) 0)), none]) dX1_pupilsNotKeptTo_24 (by decide) rfl ?_
    refine Wq.iload (x := (m.1 r 4 (ix x4) 0)) dX1_pupilsNotKeptTo_26 rfl ?_
    refine Wq.ifeq (tgt := 37) dX1_pupilsNotKeptTo_28 (by decide) (fun q2 => ?_) (fun q2 => ?_)
    · replace h := h.1 q2
      refine Wq.iconst (v := 1) dX1_pupilsNotKeptTo_37 (by decide) ?_
      refine Wq.goto (tgt := 42) dX1_pupilsNotKeptTo_38 (by decide) ?_
      refine Wq.istore (ls2 := [some (pO 0 r 0), some (pI x1), some (pI x2), some (pI x3), some (pI x4), some (pI (m.1 r 4 (ix x4) 0)), some (pI 1)]) dX1_pupilsNotKeptTo_42 (by decide) rfl ?_
      refine Wq.iload (x := 1) dX1_pupilsNotKeptTo_44 rfl ?_
      refine Wq.ifeq (tgt := 72) dX1_pupilsNotKeptTo_46 (by decide) (fun q9 => absurd q9 (by decide)) (fun _ => ?_)
      refine Wq.aload_n (t := 0) (r := r) (j := 0) dX1_pupilsNotKeptTo_49 rfl ?_
      refine Wq.iload (x := x4) dX1_pupilsNotKeptTo_50 rfl ?_
      refine Wq.iload_n (x := x2) dX1_pupilsNotKeptTo_52 rfl ?_
      refine Wq.callVI (As := [pI x4, pI x2]) dX1_pupilsNotKeptTo_53 fX1_couldCome ml_X1_159 rfl (by decide) rfl (Nat.le_of_ble_eq_true rfl) (Nat.le_of_ble_eq_true rfl) (suX1_couldCome h.1) (fun x7 m9 e9 => ?_)
      obtain ⟨rfl, rfl⟩ := e9
      replace h := h.2
      refine Wq.ifeq (tgt := 72) dX1_pupilsNotKeptTo_56 (by decide) (fun q3 => ?_) (fun q3 => ?_)
      · replace h := h.1 (bI_0 q3)
        refine Wq.iinc (x := x4) (ls2 := [some (pO 0 r 0), some (pI x1), some (pI x2), some (pI x3), some (pI (x4 + 1)), some (pI (m.1 r 4 (ix x4) 0)), some (pI 1)]) dX1_pupilsNotKeptTo_72 rfl (by decide) rfl ?_
        refine Wq.goto (tgt := 5) dX1_pupilsNotKeptTo_75 (by decide) ?_
        refine Wq.few (ls' := [some (pO 0 r 0), some (pI x1), some (pI x2), some (pI x3), some (pI (x4 + 1)), none, none]) ⟨rfl, ⟨rfl, ⟨rfl, ⟨rfl, ⟨rfl, trivial⟩⟩⟩⟩⟩ ?_
        exact h
      · replace h := h.2 (bI_1 q3)
        refine Wq.aload_n (t := 0) (r := r) (j := 0) dX1_pupilsNotKeptTo_59 rfl ?_
        refine Wq.iload (x := x4) dX1_pupilsNotKeptTo_60 rfl ?_
        refine Wq.iload_n (x := x1) dX1_pupilsNotKeptTo_62 rfl ?_
        refine Wq.callVI (As := [pI x4, pI x1]) dX1_pupilsNotKeptTo_63 fX1_mayMeetOutside ml_X1_178 rfl (by decide) rfl (Nat.le_of_ble_eq_true rfl) (Nat.le_of_ble_eq_true rfl) h (fun r4 m5 h => ?_)
        refine Wq.ifeq (tgt := 72) dX1_pupilsNotKeptTo_66 (by decide) (fun q6 => ?_) (fun q6 => ?_)
        · replace h := h.1 q6
          refine Wq.iinc (x := x4) (ls2 := [some (pO 0 r 0), some (pI x1), some (pI x2), some (pI x3), some (pI (x4 + 1)), some (pI (m.1 r 4 (ix x4) 0)), some (pI 1)]) dX1_pupilsNotKeptTo_72 rfl (by decide) rfl ?_
          refine Wq.goto (tgt := 5) dX1_pupilsNotKeptTo_75 (by decide) ?_
          refine Wq.few (ls' := [some (pO 0 r 0), some (pI x1), some (pI x2), some (pI x3), some (pI (x4 + 1)), none, none]) ⟨rfl, ⟨rfl, ⟨rfl, ⟨rfl, ⟨rfl, trivial⟩⟩⟩⟩⟩ ?_
          exact h
        · replace h := h.2 q6
          refine Wq.iinc (x := x3) (ls2 := [some (pO 0 r 0), some (pI x1), some (pI x2), some (pI (x3 + 1)), some (pI x4), some (pI (m.1 r 4 (ix x4) 0)), some (pI 1)]) dX1_pupilsNotKeptTo_69 rfl (by decide) rfl ?_
          refine Wq.iinc (x := x4) (ls2 := [some (pO 0 r 0), some (pI x1), some (pI x2), some (pI (x3 + 1)), some (pI (x4 + 1)), some (pI (m.1 r 4 (ix x4) 0)), some (pI 1)]) dX1_pupilsNotKeptTo_72 rfl (by decide) rfl ?_
          refine Wq.goto (tgt := 5) dX1_pupilsNotKeptTo_75 (by decide) ?_
          refine Wq.few (ls' := [some (pO 0 r 0), some (pI x1), some (pI x2), some (pI (x3 + 1)), some (pI (x4 + 1)), none, none]) ⟨rfl, ⟨rfl, ⟨rfl, ⟨rfl, ⟨rfl, trivial⟩⟩⟩⟩⟩ ?_
          exact h
    · replace h := h.2 q2
      refine Wq.iload (x := (m.1 r 4 (ix x4) 0)) dX1_pupilsNotKeptTo_31 rfl ?_
      refine Wq.iconst (v := 1) dX1_pupilsNotKeptTo_33 (by decide) ?_
      refine Wq.icmpne (tgt := 41) dX1_pupilsNotKeptTo_34 (by decide) (fun q8 => ?_) (fun q8 => ?_)
      · replace h := h.1 q8
        refine Wq.iconst (v := 0) dX1_pupilsNotKeptTo_41 (by decide) ?_
        refine Wq.istore (ls2 := [some (pO 0 r 0), some (pI x1), some (pI x2), some (pI x3), some (pI x4), some (pI (m.1 r 4 (ix x4) 0)), some (pI 0)]) dX1_pupilsNotKeptTo_42 (by decide) rfl ?_
        refine Wq.iload (x := 0) dX1_pupilsNotKeptTo_44 rfl ?_
        refine Wq.ifeq (tgt := 72) dX1_pupilsNotKeptTo_46 (by decide) (fun _ => ?_) (fun q9 => absurd q9 (by decide))
        refine Wq.iinc (x := x4) (ls2 := [some (pO 0 r 0), some (pI x1), some (pI x2), some (pI x3), some (pI (x4 + 1)), some (pI (m.1 r 4 (ix x4) 0)), some (pI 0)]) dX1_pupilsNotKeptTo_72 rfl (by decide) rfl ?_
        refine Wq.goto (tgt := 5) dX1_pupilsNotKeptTo_75 (by decide) ?_
        refine Wq.few (ls' := [some (pO 0 r 0), some (pI x1), some (pI x2), some (pI x3), some (pI (x4 + 1)), none, none]) ⟨rfl, ⟨rfl, ⟨rfl, ⟨rfl, ⟨rfl, trivial⟩⟩⟩⟩⟩ ?_
        exact h
      · replace h := h.2 q8
        refine Wq.iconst (v := 1) dX1_pupilsNotKeptTo_37 (by decide) ?_
        refine Wq.goto (tgt := 42) dX1_pupilsNotKeptTo_38 (by decide) ?_
        refine Wq.istore (ls2 := [some (pO 0 r 0), some (pI x1), some (pI x2), some (pI x3), some (pI x4), some (pI (m.1 r 4 (ix x4) 0)), some (pI 1)]) dX1_pupilsNotKeptTo_42 (by decide) rfl ?_
        refine Wq.iload (x := 1) dX1_pupilsNotKeptTo_44 rfl ?_
        refine Wq.ifeq (tgt := 72) dX1_pupilsNotKeptTo_46 (by decide) (fun q9 => absurd q9 (by decide)) (fun _ => ?_)
        refine Wq.aload_n (t := 0) (r := r) (j := 0) dX1_pupilsNotKeptTo_49 rfl ?_
        refine Wq.iload (x := x4) dX1_pupilsNotKeptTo_50 rfl ?_
        refine Wq.iload_n (x := x2) dX1_pupilsNotKeptTo_52 rfl ?_
        refine Wq.callVI (As := [pI x4, pI x2]) dX1_pupilsNotKeptTo_53 fX1_couldCome ml_X1_159 rfl (by decide) rfl (Nat.le_of_ble_eq_true rfl) (Nat.le_of_ble_eq_true rfl) (suX1_couldCome h.1) (fun x13 m9 e9 => ?_)
        obtain ⟨rfl, rfl⟩ := e9
        replace h := h.2
        refine Wq.ifeq (tgt := 72) dX1_pupilsNotKeptTo_56 (by decide) (fun q9 => ?_) (fun q9 => ?_)
        · replace h := h.1 (bI_0 q9)
          refine Wq.iinc (x := x4) (ls2 := [some (pO 0 r 0), some (pI x1), some (pI x2), some (pI x3), some (pI (x4 + 1)), some (pI (m.1 r 4 (ix x4) 0)), some (pI 1)]) dX1_pupilsNotKeptTo_72 rfl (by decide) rfl ?_
          refine Wq.goto (tgt := 5) dX1_pupilsNotKeptTo_75 (by decide) ?_
          refine Wq.few (ls' := [some (pO 0 r 0), some (pI x1), some (pI x2), some (pI x3), some (pI (x4 + 1)), none, none]) ⟨rfl, ⟨rfl, ⟨rfl, ⟨rfl, ⟨rfl, trivial⟩⟩⟩⟩⟩ ?_
          exact h
        · replace h := h.2 (bI_1 q9)
          refine Wq.aload_n (t := 0) (r := r) (j := 0) dX1_pupilsNotKeptTo_59 rfl ?_
          refine Wq.iload (x := x4) dX1_pupilsNotKeptTo_60 rfl ?_
          refine Wq.iload_n (x := x1) dX1_pupilsNotKeptTo_62 rfl ?_
          refine Wq.callVI (As := [pI x4, pI x1]) dX1_pupilsNotKeptTo_63 fX1_mayMeetOutside ml_X1_178 rfl (by decide) rfl (Nat.le_of_ble_eq_true rfl) (Nat.le_of_ble_eq_true rfl) h (fun r10 m11 h => ?_)
          refine Wq.ifeq (tgt := 72) dX1_pupilsNotKeptTo_66 (by decide) (fun q12 => ?_) (fun q12 => ?_)
          · replace h := h.1 q12
            refine Wq.iinc (x := x4) (ls2 := [some (pO 0 r 0), some (pI x1), some (pI x2), some (pI x3), some (pI (x4 + 1)), some (pI (m.1 r 4 (ix x4) 0)), some (pI 1)]) dX1_pupilsNotKeptTo_72 rfl (by decide) rfl ?_
            refine Wq.goto (tgt := 5) dX1_pupilsNotKeptTo_75 (by decide) ?_
            refine Wq.few (ls' := [some (pO 0 r 0), some (pI x1), some (pI x2), some (pI x3), some (pI (x4 + 1)), none, none]) ⟨rfl, ⟨rfl, ⟨rfl, ⟨rfl, ⟨rfl, trivial⟩⟩⟩⟩⟩ ?_
            exact h
          · replace h := h.2 q12
            refine Wq.iinc (x := x3) (ls2 := [some (pO 0 r 0), some (pI x1), some (pI x2), some (pI (x3 + 1)), some (pI x4), some (pI (m.1 r 4 (ix x4) 0)), some (pI 1)]) dX1_pupilsNotKeptTo_69 rfl (by decide) rfl ?_
            refine Wq.iinc (x := x4) (ls2 := [some (pO 0 r 0), some (pI x1), some (pI x2), some (pI (x3 + 1)), some (pI (x4 + 1)), some (pI (m.1 r 4 (ix x4) 0)), some (pI 1)]) dX1_pupilsNotKeptTo_72 rfl (by decide) rfl ?_
            refine Wq.goto (tgt := 5) dX1_pupilsNotKeptTo_75 (by decide) ?_
            refine Wq.few (ls' := [some (pO 0 r 0), some (pI x1), some (pI x2), some (pI (x3 + 1)), some (pI (x4 + 1)), none, none]) ⟨rfl, ⟨rfl, ⟨rfl, ⟨rfl, ⟨rfl, trivial⟩⟩⟩⟩⟩ ?_
            exact h
set_option maxHeartbeats 4000000 in
set_option maxRecDepth 20000 in
theorem sgX1_pupilProperty {g : GG} {d : Nat} {c n : Nat} {m : PM} {Q : Ou → PM → Nat → Nat → Prop} {r : Nat} {x1 : Int32} {x2 : Int32} (h : (vp_in x1 12 ∧ ((x2 = 0 → Q (.inl (some (pI (m.1 r 4 (ix x1) 0)))) m c n) ∧ (¬ x2 = 0 → ((x2 = 1 → Q (.inl (some (pI (m.1 r 4 (ix x1) 1)))) m c n) ∧ (¬ x2 = 1 → ((x2 = 2 → Q (.inl (some (pI (m.1 r 4 (ix x1) 2)))) m c n) ∧ (¬ x2 = 2 → ((x2 = 3 → Q (.inl (some (pI (m.1 r 4 (ix x1) 3)))) m c n) ∧ (¬ x2 = 3 → ((x2 = 4 → Q (.inl (some (pI (m.1 r 4 (ix x1) 4)))) m c n) ∧ (¬ x2 = 4 → ((x2 = 5 → Wp g (d + 1) MX1_cellOf 0 [some (pO 0 r 0), some (pI x1)] [] m (cI fun r7 m8 => Q (.inl (some (pI ((if ¬ r7 = (-1) then (if (x2 - 5) = 0 then (r7 / 16) else (if (x2 - 5) = 1 then (irm (r7 / 4) 4) else (irm r7 4))) else (-1)) : Int32)))) m8 c n)) ∧ (¬ x2 = 5 → ((x2 = 6 → Wp g (d + 1) MX1_cellOf 0 [some (pO 0 r 0), some (pI x1)] [] m (cI fun r11 m12 => Q (.inl (some (pI ((if ¬ r11 = (-1) then (if (x2 - 5) = 0 then (r11 / 16) else (if (x2 - 5) = 1 then (irm (r11 / 4) 4) else (irm r11 4))) else (-1)) : Int32)))) m12 c n)) ∧ (¬ x2 = 6 → ((x2 = 7 → Wp g (d + 1) MX1_cellOf 0 [some (pO 0 r 0), some (pI x1)] [] m (cI fun r15 m16 => Q (.inl (some (pI ((if ¬ r15 = (-1) then (if (x2 - 5) = 0 then (r15 / 16) else (if (x2 - 5) = 1 then (irm (r15 / 4) 4) else (irm r15 4))) else (-1)) : Int32)))) m16 c n)) ∧ (¬ x2 = 7 → ((x2 = 8 → Q (.inl (some (pI (m.1 r 4 (ix x1) 5)))) m c n) ∧ (¬ x2 = 8 → ((x2 = 9 → Wp g (d + 1) MX1_placeInQueue 0 [some (pO 0 r 0), some (pI x1)] [] m (cI fun r20 m21 => Q (.inl (some (pI r20))) m21 c n)) ∧ (¬ x2 = 9 → ((x2 = 10 → Q (.inl (some (pI (m.1 r 4 (ix x1) 7)))) m c n) ∧ (¬ x2 = 10 → Wp g (d + 1) MX1_cellOf 0 [some (pO 0 r 0), some (pI x1)] [] m (cI fun r23 m24 => Q (.inl (some (pI ((if ¬ r23 = (-1) then (if (x2 - 5) = 0 then (r23 / 16) else (if (x2 - 5) = 1 then (irm (r23 / 4) 4) else (irm r23 4))) else (-1)) : Int32)))) m24 c n))))))))))))))))))))))))) : Wq g (d + 2) MX1_pupilProperty c n 0 [some (pO 0 r 0), some (pI x1), some (pI x2)] [] m Q := by
  refine Wq.few (ls' := [some (pO 0 r 0), some (pI x1), some (pI x2), none]) ⟨rfl, ⟨rfl, ⟨rfl, trivial⟩⟩⟩ ?_
  refine Wq.aload_n (t := 0) (r := r) (j := 0) dX1_pupilProperty_0 rfl ?_
  refine Wq.getf (v := pO 7 r 0) dX1_pupilProperty_1 fl_X1_39 ⟨rfl, rfl, by decide⟩ rfl ?_
  refine Wq.iload_n (x := x1) dX1_pupilProperty_4 rfl ?_
  refine Wq.aaldP dX1_pupilProperty_5 h.1 ?_
  replace h := h.2
  refine Wq.astore_n (ls2 := [some (pO 0 r 0), some (pI x1), some (pI x2), some (pO 4 r (ix x1))]) dX1_pupilProperty_6 (by decide) rfl ?_
  refine Wq.iload_n (x := x2) dX1_pupilProperty_7 rfl ?_
  by_cases q1 : x2 = 0
  · replace h := h.1 q1
    refine Wq.tableIn (tgt := 68) dX1_pupilProperty_8 (by rw [q1]; decide) (by rw [q1]; decide) (by rw [q1]; rfl) (by decide) ?_
    refine Wq.aload_n (t := 4) (r := r) (j := (ix x1)) dX1_pupilProperty_68 rfl ?_
    refine Wq.getf (v := pI (m.1 r 4 (ix x1) 0)) dX1_pupilProperty_69 fl_X1_83 ⟨rfl, rfl, by decide⟩ rfl ?_
    exact Wq.iret dX1_pupilProperty_72 (⟨_, rfl, rfl⟩) h
  · replace h := h.2 q1
    by_cases q2 : x2 = 1
    · replace h := h.1 q2
      refine Wq.tableIn (tgt := 73) dX1_pupilProperty_8 (by rw [q2]; decide) (by rw [q2]; decide) (by rw [q2]; rfl) (by decide) ?_
      refine Wq.aload_n (t := 4) (r := r) (j := (ix x1)) dX1_pupilProperty_73 rfl ?_
      refine Wq.getf (v := pI (m.1 r 4 (ix x1) 1)) dX1_pupilProperty_74 fl_X1_138 ⟨rfl, rfl, by decide⟩ rfl ?_
      exact Wq.iret dX1_pupilProperty_77 (⟨_, rfl, rfl⟩) h
    · replace h := h.2 q2
      by_cases q3 : x2 = 2
      · replace h := h.1 q3
        refine Wq.tableIn (tgt := 78) dX1_pupilProperty_8 (by rw [q3]; decide) (by rw [q3]; decide) (by rw [q3]; rfl) (by decide) ?_
        refine Wq.aload_n (t := 4) (r := r) (j := (ix x1)) dX1_pupilProperty_78 rfl ?_
        refine Wq.getf (v := pI (m.1 r 4 (ix x1) 2)) dX1_pupilProperty_79 fl_X1_80 ⟨rfl, rfl, by decide⟩ rfl ?_
        exact Wq.iret dX1_pupilProperty_82 (⟨_, rfl, rfl⟩) h
      · replace h := h.2 q3
        by_cases q4 : x2 = 3
        · replace h := h.1 q4
          refine Wq.tableIn (tgt := 83) dX1_pupilProperty_8 (by rw [q4]; decide) (by rw [q4]; decide) (by rw [q4]; rfl) (by decide) ?_
          refine Wq.aload_n (t := 4) (r := r) (j := (ix x1)) dX1_pupilProperty_83 rfl ?_
          refine Wq.getf (v := pI (m.1 r 4 (ix x1) 3)) dX1_pupilProperty_84 fl_X1_129 ⟨rfl, rfl, by decide⟩ rfl ?_
          exact Wq.iret dX1_pupilProperty_87 (⟨_, rfl, rfl⟩) h
        · replace h := h.2 q4
          by_cases q5 : x2 = 4
          · replace h := h.1 q5
            refine Wq.tableIn (tgt := 88) dX1_pupilProperty_8 (by rw [q5]; decide) (by rw [q5]; decide) (by rw [q5]; rfl) (by decide) ?_
            refine Wq.aload_n (t := 4) (r := r) (j := (ix x1)) dX1_pupilProperty_88 rfl ?_
            refine Wq.getf (v := pI (m.1 r 4 (ix x1) 4)) dX1_pupilProperty_89 fl_X1_132 ⟨rfl, rfl, by decide⟩ rfl ?_
            exact Wq.iret dX1_pupilProperty_92 (⟨_, rfl, rfl⟩) h
          · replace h := h.2 q5
            by_cases q6 : x2 = 5
            · replace h := h.1 q6
              refine Wq.tableIn (tgt := 109) dX1_pupilProperty_8 (by rw [q6]; decide) (by rw [q6]; decide) (by rw [q6]; rfl) (by decide) ?_
              refine Wq.aload_n (t := 0) (r := r) (j := 0) dX1_pupilProperty_109 rfl ?_
              refine Wq.iload_n (x := x1) dX1_pupilProperty_110 rfl ?_
              refine Wq.callVI (As := [pI x1]) dX1_pupilProperty_111 fX1_cellOf ml_X1_95 rfl (by decide) rfl (Nat.le_of_ble_eq_true rfl) (Nat.le_of_ble_eq_true rfl) h (fun r7 m8 h => ?_)
              refine Wq.iload_n (x := x2) dX1_pupilProperty_114 rfl ?_
              refine Wq.iconst (v := 5) dX1_pupilProperty_115 (by decide) ?_
              refine Wq.isub dX1_pupilProperty_116 ?_
              refine Wq.callNI (As := [pI r7, pI (x2 - 5)]) dX1_pupilProperty_117 fX4_partOfCell nl_X1_99 rfl (Nat.le_of_ble_eq_true rfl) (Nat.le_of_ble_eq_true rfl) (suX4_partOfCell trivial) (fun x9 m9 e9 => ?_)
              obtain ⟨rfl, rfl⟩ := e9
              exact Wq.iret dX1_pupilProperty_120 (⟨_, rfl, rfl⟩) h
            · replace h := h.2 q6
              by_cases q10 : x2 = 6
              · replace h := h.1 q10
                refine Wq.tableIn (tgt := 109) dX1_pupilProperty_8 (by rw [q10]; decide) (by rw [q10]; decide) (by rw [q10]; rfl) (by decide) ?_
                refine Wq.aload_n (t := 0) (r := r) (j := 0) dX1_pupilProperty_109 rfl ?_
                refine Wq.iload_n (x := x1) dX1_pupilProperty_110 rfl ?_
                refine Wq.callVI (As := [pI x1]) dX1_pupilProperty_111 fX1_cellOf ml_X1_95 rfl (by decide) rfl (Nat.le_of_ble_eq_true rfl) (Nat.le_of_ble_eq_true rfl) h (fun r11 m12 h => ?_)
                refine Wq.iload_n (x := x2) dX1_pupilProperty_114 rfl ?_
                refine Wq.iconst (v := 5) dX1_pupilProperty_115 (by decide) ?_
                refine Wq.isub dX1_pupilProperty_116 ?_
                refine Wq.callNI (As := [pI r11, pI (x2 - 5)]) dX1_pupilProperty_117 fX4_partOfCell nl_X1_99 rfl (Nat.le_of_ble_eq_true rfl) (Nat.le_of_ble_eq_true rfl) (suX4_partOfCell trivial) (fun x13 m9 e9 => ?_)
                obtain ⟨rfl, rfl⟩ := e9
                exact Wq.iret dX1_pupilProperty_120 (⟨_, rfl, rfl⟩) h
              · replace h := h.2 q10
                by_cases q14 : x2 = 7
                · replace h := h.1 q14
                  refine Wq.tableIn (tgt := 109) dX1_pupilProperty_8 (by rw [q14]; decide) (by rw [q14]; decide) (by rw [q14]; rfl) (by decide) ?_
                  refine Wq.aload_n (t := 0) (r := r) (j := 0) dX1_pupilProperty_109 rfl ?_
                  refine Wq.iload_n (x := x1) dX1_pupilProperty_110 rfl ?_
                  refine Wq.callVI (As := [pI x1]) dX1_pupilProperty_111 fX1_cellOf ml_X1_95 rfl (by decide) rfl (Nat.le_of_ble_eq_true rfl) (Nat.le_of_ble_eq_true rfl) h (fun r15 m16 h => ?_)
                  refine Wq.iload_n (x := x2) dX1_pupilProperty_114 rfl ?_
                  refine Wq.iconst (v := 5) dX1_pupilProperty_115 (by decide) ?_
                  refine Wq.isub dX1_pupilProperty_116 ?_
                  refine Wq.callNI (As := [pI r15, pI (x2 - 5)]) dX1_pupilProperty_117 fX4_partOfCell nl_X1_99 rfl (Nat.le_of_ble_eq_true rfl) (Nat.le_of_ble_eq_true rfl) (suX4_partOfCell trivial) (fun x17 m9 e9 => ?_)
                  obtain ⟨rfl, rfl⟩ := e9
                  exact Wq.iret dX1_pupilProperty_120 (⟨_, rfl, rfl⟩) h
                · replace h := h.2 q14
                  by_cases q18 : x2 = 8
                  · replace h := h.1 q18
                    refine Wq.tableIn (tgt := 93) dX1_pupilProperty_8 (by rw [q18]; decide) (by rw [q18]; decide) (by rw [q18]; rfl) (by decide) ?_
                    refine Wq.aload_n (t := 4) (r := r) (j := (ix x1)) dX1_pupilProperty_93 rfl ?_
                    refine Wq.getf (v := pI (m.1 r 4 (ix x1) 5)) dX1_pupilProperty_94 fl_X1_114 ⟨rfl, rfl, by decide⟩ rfl ?_
                    exact Wq.iret dX1_pupilProperty_97 (⟨_, rfl, rfl⟩) h
                  · replace h := h.2 q18
                    by_cases q19 : x2 = 9
                    · replace h := h.1 q19
                      refine Wq.tableIn (tgt := 98) dX1_pupilProperty_8 (by rw [q19]; decide) (by rw [q19]; decide) (by rw [q19]; rfl) (by decide) ?_
                      refine Wq.aload_n (t := 0) (r := r) (j := 0) dX1_pupilProperty_98 rfl ?_
                      refine Wq.iload_n (x := x1) dX1_pupilProperty_99 rfl ?_
                      refine Wq.callVI (As := [pI x1]) dX1_pupilProperty_100 fX1_placeInQueue ml_X1_149 rfl (by decide) rfl (Nat.le_of_ble_eq_true rfl) (Nat.le_of_ble_eq_true rfl) h (fun r20 m21 h => ?_)
                      exact Wq.iret dX1_pupilProperty_103 (⟨_, rfl, rfl⟩) h
                    · replace h := h.2 q19
                      by_cases q22 : x2 = 10
                      · replace h := h.1 q22
                        refine Wq.tableIn (tgt := 104) dX1_pupilProperty_8 (by rw [q22]; decide) (by rw [q22]; decide) (by rw [q22]; rfl) (by decide) ?_
                        refine Wq.aload_n (t := 4) (r := r) (j := (ix x1)) dX1_pupilProperty_104 rfl ?_
                        refine Wq.getf (v := pI (m.1 r 4 (ix x1) 7)) dX1_pupilProperty_105 fl_X1_89 ⟨rfl, rfl, by decide⟩ rfl ?_
                        exact Wq.iret dX1_pupilProperty_108 (⟨_, rfl, rfl⟩) h
                      · replace h := h.2 q22
                        refine Wq.tableOut (tgt := 109) dX1_pupilProperty_8 (sw_out11 q1 q2 q3 q4 q5 q6 q10 q14 q18 q19 q22) (by decide) ?_
                        refine Wq.aload_n (t := 0) (r := r) (j := 0) dX1_pupilProperty_109 rfl ?_
                        refine Wq.iload_n (x := x1) dX1_pupilProperty_110 rfl ?_
                        refine Wq.callVI (As := [pI x1]) dX1_pupilProperty_111 fX1_cellOf ml_X1_95 rfl (by decide) rfl (Nat.le_of_ble_eq_true rfl) (Nat.le_of_ble_eq_true rfl) h (fun r23 m24 h => ?_)
                        refine Wq.iload_n (x := x2) dX1_pupilProperty_114 rfl ?_
                        refine Wq.iconst (v := 5) dX1_pupilProperty_115 (by decide) ?_
                        refine Wq.isub dX1_pupilProperty_116 ?_
                        refine Wq.callNI (As := [pI r23, pI (x2 - 5)]) dX1_pupilProperty_117 fX4_partOfCell nl_X1_99 rfl (Nat.le_of_ble_eq_true rfl) (Nat.le_of_ble_eq_true rfl) (suX4_partOfCell trivial) (fun x25 m9 e9 => ?_)
                        obtain ⟨rfl, rfl⟩ := e9
                        exact Wq.iret dX1_pupilProperty_120 (⟨_, rfl, rfl⟩) h
set_option maxHeartbeats 4000000 in
set_option maxRecDepth 20000 in
theorem sgX1_number {g : GG} {d : Nat} {c n : Nat} {m : PM} {Q : Ou → PM → Nat → Nat → Prop} {r : Nat} {x1 : Int32} (h : ((x1 = 0 → Q (.inl (some (pI (m.1 r 0 0 0)))) m c n) ∧ (¬ x1 = 0 → ((x1 = 1 → Q (.inl (some (pI (m.1 r 0 0 1)))) m c n) ∧ (¬ x1 = 1 → ((x1 = 2 → Q (.inl (some (pI (m.1 r 0 0 2)))) m c n) ∧ (¬ x1 = 2 → ((x1 = 3 → Wp g (d + 1) MX1_pupilsWho 0 [some (pO 0 r 0), some (pI (x1 - 3))] [] m (cI fun r5 m6 => Q (.inl (some (pI r5))) m6 c n)) ∧ (¬ x1 = 3 → ((x1 = 4 → Wp g (d + 1) MX1_pupilsWho 0 [some (pO 0 r 0), some (pI (x1 - 3))] [] m (cI fun r8 m9 => Q (.inl (some (pI r8))) m9 c n)) ∧ (¬ x1 = 4 → ((x1 = 5 → Wp g (d + 1) MX1_pupilsWho 0 [some (pO 0 r 0), some (pI (x1 - 3))] [] m (cI fun r11 m12 => Q (.inl (some (pI r11))) m12 c n)) ∧ (¬ x1 = 5 → ((x1 = 6 → Wp g (d + 1) MX1_pupilsWho 0 [some (pO 0 r 0), some (pI (x1 - 3))] [] m (cI fun r14 m15 => Q (.inl (some (pI r14))) m15 c n)) ∧ (¬ x1 = 6 → ((x1 = 7 → Wp g (d + 1) MX1_testsSoFar 0 [some (pO 0 r 0)] [] m (cI fun r17 m18 => Q (.inl (some (pI r17))) m18 c n)) ∧ (¬ x1 = 7 → ((x1 = 8 → Wp g (d + 1) MX1_passedSoFar 0 [some (pO 0 r 0)] [] m (cI fun r20 m21 => Q (.inl (some (pI r20))) m21 c n)) ∧ (¬ x1 = 8 → ((x1 = 9 → Wp g (d + 1) MX1_movedSoFar 0 [some (pO 0 r 0)] [] m (cI fun r23 m24 => Q (.inl (some (pI r23))) m24 c n)) ∧ (¬ x1 = 9 → ((x1 = 10 → Q (.inl (some (pI (m.1 r 0 0 4)))) m c n) ∧ (¬ x1 = 10 → ((x1 = 11 → Wp g (d + 1) MX1_moneyTaken 0 [some (pO 0 r 0)] [] m (cI fun r27 m28 => Q (.inl (some (pI r27))) m28 c n)) ∧ (¬ x1 = 11 → ((x1 = 12 → Wp g (d + 1) MX1_freeSlots 0 [some (pO 0 r 0)] [] m (cI fun r30 m31 => Q (.inl (some (pI r30))) m31 c n)) ∧ (¬ x1 = 12 → ((x1 = 13 → Wp g (d + 1) MX1_daysToAllSlots 0 [some (pO 0 r 0)] [] m (cI fun r33 m34 => Q (.inl (some (pI r33))) m34 c n)) ∧ (¬ x1 = 13 → Wp g (d + 1) MX1_pupilsWho 0 [some (pO 0 r 0), some (pI (x1 - 3))] [] m (cI fun r35 m36 => Q (.inl (some (pI r35))) m36 c n)))))))))))))))))))))))))))))) : Wq g (d + 2) MX1_number c n 0 [some (pO 0 r 0), some (pI x1)] [] m Q := by
  refine Wq.few (ls' := [some (pO 0 r 0), some (pI x1)]) ⟨rfl, ⟨rfl, trivial⟩⟩ ?_
  refine Wq.iload_n (x := x1) dX1_number_0 rfl ?_
  by_cases q1 : x1 = 0
  · replace h := h.1 q1
    refine Wq.tableIn (tgt := 72) dX1_number_1 (by rw [q1]; decide) (by rw [q1]; decide) (by rw [q1]; rfl) (by decide) ?_
    refine Wq.aload_n (t := 0) (r := r) (j := 0) dX1_number_72 rfl ?_
    refine Wq.getf (v := pI (m.1 r 0 0 0)) dX1_number_73 fl_X1_9 ⟨rfl, rfl, by decide⟩ rfl ?_
    exact Wq.iret dX1_number_76 (⟨_, rfl, rfl⟩) h
  · replace h := h.2 q1
    by_cases q2 : x1 = 1
    · replace h := h.1 q2
      refine Wq.tableIn (tgt := 77) dX1_number_1 (by rw [q2]; decide) (by rw [q2]; decide) (by rw [q2]; rfl) (by decide) ?_
      refine Wq.aload_n (t := 0) (r := r) (j := 0) dX1_number_77 rfl ?_
      refine Wq.getf (v := pI (m.1 r 0 0 1)) dX1_number_78 fl_X1_15 ⟨rfl, rfl, by decide⟩ rfl ?_
      exact Wq.iret dX1_number_81 (⟨_, rfl, rfl⟩) h
    · replace h := h.2 q2
      by_cases q3 : x1 = 2
      · replace h := h.1 q3
        refine Wq.tableIn (tgt := 82) dX1_number_1 (by rw [q3]; decide) (by rw [q3]; decide) (by rw [q3]; rfl) (by decide) ?_
        refine Wq.aload_n (t := 0) (r := r) (j := 0) dX1_number_82 rfl ?_
        refine Wq.getf (v := pI (m.1 r 0 0 2)) dX1_number_83 fl_X1_18 ⟨rfl, rfl, by decide⟩ rfl ?_
        exact Wq.iret dX1_number_86 (⟨_, rfl, rfl⟩) h
      · replace h := h.2 q3
        by_cases q4 : x1 = 3
        · replace h := h.1 q4
          refine Wq.tableIn (tgt := 122) dX1_number_1 (by rw [q4]; decide) (by rw [q4]; decide) (by rw [q4]; rfl) (by decide) ?_
          refine Wq.aload_n (t := 0) (r := r) (j := 0) dX1_number_122 rfl ?_
          refine Wq.iload_n (x := x1) dX1_number_123 rfl ?_
          refine Wq.iconst (v := 3) dX1_number_124 (by decide) ?_
          refine Wq.isub dX1_number_125 ?_
          refine Wq.callVI (As := [pI (x1 - 3)]) dX1_number_126 fX1_pupilsWho ml_X1_206 rfl (by decide) rfl (Nat.le_of_ble_eq_true rfl) (Nat.le_of_ble_eq_true rfl) h (fun r5 m6 h => ?_)
          exact Wq.iret dX1_number_129 (⟨_, rfl, rfl⟩) h
        · replace h := h.2 q4
          by_cases q7 : x1 = 4
          · replace h := h.1 q7
            refine Wq.tableIn (tgt := 122) dX1_number_1 (by rw [q7]; decide) (by rw [q7]; decide) (by rw [q7]; rfl) (by decide) ?_
            refine Wq.aload_n (t := 0) (r := r) (j := 0) dX1_number_122 rfl ?_
            refine Wq.iload_n (x := x1) dX1_number_123 rfl ?_
            refine Wq.iconst (v := 3) dX1_number_124 (by decide) ?_
            refine Wq.isub dX1_number_125 ?_
            refine Wq.callVI (As := [pI (x1 - 3)]) dX1_number_126 fX1_pupilsWho ml_X1_206 rfl (by decide) rfl (Nat.le_of_ble_eq_true rfl) (Nat.le_of_ble_eq_true rfl) h (fun r8 m9 h => ?_)
            exact Wq.iret dX1_number_129 (⟨_, rfl, rfl⟩) h
          · replace h := h.2 q7
            by_cases q10 : x1 = 5
            · replace h := h.1 q10
              refine Wq.tableIn (tgt := 122) dX1_number_1 (by rw [q10]; decide) (by rw [q10]; decide) (by rw [q10]; rfl) (by decide) ?_
              refine Wq.aload_n (t := 0) (r := r) (j := 0) dX1_number_122 rfl ?_
              refine Wq.iload_n (x := x1) dX1_number_123 rfl ?_
              refine Wq.iconst (v := 3) dX1_number_124 (by decide) ?_
              refine Wq.isub dX1_number_125 ?_
              refine Wq.callVI (As := [pI (x1 - 3)]) dX1_number_126 fX1_pupilsWho ml_X1_206 rfl (by decide) rfl (Nat.le_of_ble_eq_true rfl) (Nat.le_of_ble_eq_true rfl) h (fun r11 m12 h => ?_)
              exact Wq.iret dX1_number_129 (⟨_, rfl, rfl⟩) h
            · replace h := h.2 q10
              by_cases q13 : x1 = 6
              · replace h := h.1 q13
                refine Wq.tableIn (tgt := 122) dX1_number_1 (by rw [q13]; decide) (by rw [q13]; decide) (by rw [q13]; rfl) (by decide) ?_
                refine Wq.aload_n (t := 0) (r := r) (j := 0) dX1_number_122 rfl ?_
                refine Wq.iload_n (x := x1) dX1_number_123 rfl ?_
                refine Wq.iconst (v := 3) dX1_number_124 (by decide) ?_
                refine Wq.isub dX1_number_125 ?_
                refine Wq.callVI (As := [pI (x1 - 3)]) dX1_number_126 fX1_pupilsWho ml_X1_206 rfl (by decide) rfl (Nat.le_of_ble_eq_true rfl) (Nat.le_of_ble_eq_true rfl) h (fun r14 m15 h => ?_)
                exact Wq.iret dX1_number_129 (⟨_, rfl, rfl⟩) h
              · replace h := h.2 q13
                by_cases q16 : x1 = 7
                · replace h := h.1 q16
                  refine Wq.tableIn (tgt := 87) dX1_number_1 (by rw [q16]; decide) (by rw [q16]; decide) (by rw [q16]; rfl) (by decide) ?_
                  refine Wq.aload_n (t := 0) (r := r) (j := 0) dX1_number_87 rfl ?_
                  refine Wq.callVI (As := []) dX1_number_88 fX1_testsSoFar ml_X1_188 rfl (by decide) rfl (Nat.le_of_ble_eq_true rfl) (Nat.le_of_ble_eq_true rfl) h (fun r17 m18 h => ?_)
                  exact Wq.iret dX1_number_91 (⟨_, rfl, rfl⟩) h
                · replace h := h.2 q16
                  by_cases q19 : x1 = 8
                  · replace h := h.1 q19
                    refine Wq.tableIn (tgt := 92) dX1_number_1 (by rw [q19]; decide) (by rw [q19]; decide) (by rw [q19]; rfl) (by decide) ?_
                    refine Wq.aload_n (t := 0) (r := r) (j := 0) dX1_number_92 rfl ?_
                    refine Wq.callVI (As := []) dX1_number_93 fX1_passedSoFar ml_X1_191 rfl (by decide) rfl (Nat.le_of_ble_eq_true rfl) (Nat.le_of_ble_eq_true rfl) h (fun r20 m21 h => ?_)
                    exact Wq.iret dX1_number_96 (⟨_, rfl, rfl⟩) h
                  · replace h := h.2 q19
                    by_cases q22 : x1 = 9
                    · replace h := h.1 q22
                      refine Wq.tableIn (tgt := 97) dX1_number_1 (by rw [q22]; decide) (by rw [q22]; decide) (by rw [q22]; rfl) (by decide) ?_
                      refine Wq.aload_n (t := 0) (r := r) (j := 0) dX1_number_97 rfl ?_
                      refine Wq.callVI (As := []) dX1_number_98 fX1_movedSoFar ml_X1_194 rfl (by decide) rfl (Nat.le_of_ble_eq_true rfl) (Nat.le_of_ble_eq_true rfl) h (fun r23 m24 h => ?_)
                      exact Wq.iret dX1_number_101 (⟨_, rfl, rfl⟩) h
                    · replace h := h.2 q22
                      by_cases q25 : x1 = 10
                      · replace h := h.1 q25
                        refine Wq.tableIn (tgt := 102) dX1_number_1 (by rw [q25]; decide) (by rw [q25]; decide) (by rw [q25]; rfl) (by decide) ?_
                        refine Wq.aload_n (t := 0) (r := r) (j := 0) dX1_number_102 rfl ?_
                        refine Wq.getf (v := pI (m.1 r 0 0 4)) dX1_number_103 fl_X1_24 ⟨rfl, rfl, by decide⟩ rfl ?_
                        exact Wq.iret dX1_number_106 (⟨_, rfl, rfl⟩) h
                      · replace h := h.2 q25
                        by_cases q26 : x1 = 11
                        · replace h := h.1 q26
                          refine Wq.tableIn (tgt := 107) dX1_number_1 (by rw [q26]; decide) (by rw [q26]; decide) (by rw [q26]; rfl) (by decide) ?_
                          refine Wq.aload_n (t := 0) (r := r) (j := 0) dX1_number_107 rfl ?_
                          refine Wq.callVI (As := []) dX1_number_108 fX1_moneyTaken ml_X1_197 rfl (by decide) rfl (Nat.le_of_ble_eq_true rfl) (Nat.le_of_ble_eq_true rfl) h (fun r27 m28 h => ?_)
                          exact Wq.iret dX1_number_111 (⟨_, rfl, rfl⟩) h
                        · replace h := h.2 q26
                          by_cases q29 : x1 = 12
                          · replace h := h.1 q29
                            refine Wq.tableIn (tgt := 112) dX1_number_1 (by rw [q29]; decide) (by rw [q29]; decide) (by rw [q29]; rfl) (by decide) ?_
                            refine Wq.aload_n (t := 0) (r := r) (j := 0) dX1_number_112 rfl ?_
                            refine Wq.callVI (As := []) dX1_number_113 fX1_freeSlots ml_X1_200 rfl (by decide) rfl (Nat.le_of_ble_eq_true rfl) (Nat.le_of_ble_eq_true rfl) h (fun r30 m31 h => ?_)
                            exact Wq.iret dX1_number_116 (⟨_, rfl, rfl⟩) h
                          · replace h := h.2 q29
                            by_cases q32 : x1 = 13
                            · replace h := h.1 q32
                              refine Wq.tableIn (tgt := 117) dX1_number_1 (by rw [q32]; decide) (by rw [q32]; decide) (by rw [q32]; rfl) (by decide) ?_
                              refine Wq.aload_n (t := 0) (r := r) (j := 0) dX1_number_117 rfl ?_
                              refine Wq.callVI (As := []) dX1_number_118 fX1_daysToAllSlots ml_X1_203 rfl (by decide) rfl (Nat.le_of_ble_eq_true rfl) (Nat.le_of_ble_eq_true rfl) h (fun r33 m34 h => ?_)
                              exact Wq.iret dX1_number_121 (⟨_, rfl, rfl⟩) h
                            · replace h := h.2 q32
                              refine Wq.tableOut (tgt := 122) dX1_number_1 (sw_out14 q1 q2 q3 q4 q7 q10 q13 q16 q19 q22 q25 q26 q29 q32) (by decide) ?_
                              refine Wq.aload_n (t := 0) (r := r) (j := 0) dX1_number_122 rfl ?_
                              refine Wq.iload_n (x := x1) dX1_number_123 rfl ?_
                              refine Wq.iconst (v := 3) dX1_number_124 (by decide) ?_
                              refine Wq.isub dX1_number_125 ?_
                              refine Wq.callVI (As := [pI (x1 - 3)]) dX1_number_126 fX1_pupilsWho ml_X1_206 rfl (by decide) rfl (Nat.le_of_ble_eq_true rfl) (Nat.le_of_ble_eq_true rfl) h (fun r35 m36 h => ?_)
                              exact Wq.iret dX1_number_129 (⟨_, rfl, rfl⟩) h
set_option maxHeartbeats 4000000 in
set_option maxRecDepth 20000 in
theorem sgX1_takeOnExaminer {g : GG} {d : Nat} {c n : Nat} {m : PM} {Q : Ou → PM → Nat → Nat → Prop} {r : Nat} (h : Wq g (d + 3) MX1_takeOnExaminer c n 17 [some (pO 0 r 0), some (pI (m.1 r 0 0 1)), some (pI 0)] [] (setI m 0 r 0 1 ((m.1 r 0 0 1) + 1)) Q) : Wq g (d + 3) MX1_takeOnExaminer c n 0 [some (pO 0 r 0)] [] m Q := by
  refine Wq.few (ls' := [some (pO 0 r 0), none, none]) ⟨rfl, trivial⟩ ?_
  refine Wq.aload_n (t := 0) (r := r) (j := 0) dX1_takeOnExaminer_0 rfl ?_
  refine Wq.getf (v := pI (m.1 r 0 0 1)) dX1_takeOnExaminer_1 fl_X1_15 ⟨rfl, rfl, by decide⟩ rfl ?_
  refine Wq.istore_n (ls2 := [some (pO 0 r 0), some (pI (m.1 r 0 0 1)), none]) dX1_takeOnExaminer_4 (by decide) rfl ?_
  refine Wq.aload_n (t := 0) (r := r) (j := 0) dX1_takeOnExaminer_5 rfl ?_
  refine Wq.dup dX1_takeOnExaminer_6 rfl ?_
  refine Wq.getf (v := pI (m.1 r 0 0 1)) dX1_takeOnExaminer_7 fl_X1_15 ⟨rfl, rfl, by decide⟩ rfl ?_
  refine Wq.iconst (v := 1) dX1_takeOnExaminer_10 (by decide) ?_
  refine Wq.iadd dX1_takeOnExaminer_11 ?_
  refine Wq.putI dX1_takeOnExaminer_12 fw_X1_15 ⟨rfl, rfl, by decide⟩ ⟨rfl, by decide, by decide⟩ ⟨rfl, rfl⟩ ?_
  refine Wq.iconst (v := 0) dX1_takeOnExaminer_15 (by decide) ?_
  refine Wq.istore_n (ls2 := [some (pO 0 r 0), some (pI (m.1 r 0 0 1)), some (pI 0)]) dX1_takeOnExaminer_16 (by decide) rfl ?_
  exact h
set_option maxHeartbeats 4000000 in
set_option maxRecDepth 20000 in
theorem sgX1_takeOnExaminer_17 {g : GG} {d : Nat} {c n : Nat} {m : PM} {Q : Ou → PM → Nat → Nat → Prop} {r : Nat} {x1 : Int32} {x2 : Int32} (h : ((10 ≤ x2 → Wp g (d + 2) MX1_giveSlotsOut 0 [some (pO 0 r 0)] [] m (cV fun m3 => Q (.inl (some (pI x1))) m3 c n)) ∧ (¬ 10 ≤ x2 → Wp g (d + 2) MX1_freeSlotsOf 0 [some (pO 0 r 0), some (pI x1), some (pI x2)] [] m (cV fun m5 => Wq g (d + 3) MX1_takeOnExaminer c n 17 [some (pO 0 r 0), some (pI x1), some (pI (x2 + 1))] [] m5 Q)))) : Wq g (d + 3) MX1_takeOnExaminer c n 17 [some (pO 0 r 0), some (pI x1), some (pI x2)] [] m Q := by
  refine Wq.iload_n (x := x2) dX1_takeOnExaminer_17 rfl ?_
  refine Wq.bipush (v := 10) dX1_takeOnExaminer_18 (by decide) ?_
  refine Wq.icmpge (tgt := 35) dX1_takeOnExaminer_20 (by decide) (fun q1 => ?_) (fun q1 => ?_)
  · replace h := h.1 q1
    refine Wq.aload_n (t := 0) (r := r) (j := 0) dX1_takeOnExaminer_35 rfl ?_
    refine Wq.callVV (As := []) dX1_takeOnExaminer_36 fX1_giveSlotsOut ml_X1_77 rfl (by decide) rfl (Nat.le_of_ble_eq_true rfl) (Nat.le_of_ble_eq_true rfl) h (fun m3 h => ?_)
    refine Wq.iload_n (x := x1) dX1_takeOnExaminer_39 rfl ?_
    exact Wq.iret dX1_takeOnExaminer_40 (⟨_, rfl, rfl⟩) h
  · replace h := h.2 q1
    refine Wq.aload_n (t := 0) (r := r) (j := 0) dX1_takeOnExaminer_23 rfl ?_
    refine Wq.iload_n (x := x1) dX1_takeOnExaminer_24 rfl ?_
    refine Wq.iload_n (x := x2) dX1_takeOnExaminer_25 rfl ?_
    refine Wq.callVV (As := [pI x1, pI x2]) dX1_takeOnExaminer_26 fX1_freeSlotsOf ml_X1_73 rfl (by decide) rfl (Nat.le_of_ble_eq_true rfl) (Nat.le_of_ble_eq_true rfl) h (fun m5 h => ?_)
    refine Wq.iinc (x := x2) (ls2 := [some (pO 0 r 0), some (pI x1), some (pI (x2 + 1))]) dX1_takeOnExaminer_29 rfl (by decide) rfl ?_
    refine Wq.goto (tgt := 17) dX1_takeOnExaminer_32 (by decide) ?_
    exact h
set_option maxHeartbeats 4000000 in
set_option maxRecDepth 20000 in
theorem sgX1_letAsk {g : GG} {d : Nat} {c n : Nat} {m : PM} {Q : Ou → PM → Nat → Nat → Prop} {r : Nat} {x1 : Int32} (h : (vp_in x1 12 ∧ Wp g (d + 2) MX1_giveSlotsOut 0 [some (pO 0 r 0)] [] (setI (setI (setI (setI (setI m 4 r (ix x1) 8 (m.1 r 1 0 (ix 3))) 4 r (ix x1) 7 (((setI m 4 r (ix x1) 8 (m.1 r 1 0 (ix 3))).1 r 4 (ix x1) 7) + ((setI m 4 r (ix x1) 8 (m.1 r 1 0 (ix 3))).1 r 4 (ix x1) 8))) 4 r (ix x1) 0 1) 4 r (ix x1) 6 ((setI (setI (setI m 4 r (ix x1) 8 (m.1 r 1 0 (ix 3))) 4 r (ix x1) 7 (((setI m 4 r (ix x1) 8 (m.1 r 1 0 (ix 3))).1 r 4 (ix x1) 7) + ((setI m 4 r (ix x1) 8 (m.1 r 1 0 (ix 3))).1 r 4 (ix x1) 8))) 4 r (ix x1) 0 1).1 r 0 0 3)) 0 r 0 3 (((setI (setI (setI (setI m 4 r (ix x1) 8 (m.1 r 1 0 (ix 3))) 4 r (ix x1) 7 (((setI m 4 r (ix x1) 8 (m.1 r 1 0 (ix 3))).1 r 4 (ix x1) 7) + ((setI m 4 r (ix x1) 8 (m.1 r 1 0 (ix 3))).1 r 4 (ix x1) 8))) 4 r (ix x1) 0 1) 4 r (ix x1) 6 ((setI (setI (setI m 4 r (ix x1) 8 (m.1 r 1 0 (ix 3))) 4 r (ix x1) 7 (((setI m 4 r (ix x1) 8 (m.1 r 1 0 (ix 3))).1 r 4 (ix x1) 7) + ((setI m 4 r (ix x1) 8 (m.1 r 1 0 (ix 3))).1 r 4 (ix x1) 8))) 4 r (ix x1) 0 1).1 r 0 0 3)).1 r 0 0 3) + 1)) (cV fun m2 => Wp g (d + 2) MX1_cellOf 0 [some (pO 0 r 0), some (pI x1)] [] m2 (cI fun r3 m4 => Q (.inl (some (pI ((if ¬ r3 = (-1) then (if (0 : Int32) = 0 then (r3 / 16) else (if (0 : Int32) = 1 then (irm (r3 / 4) 4) else (irm r3 4))) else (-1)) : Int32)))) m4 c n)))) : Wq g (d + 3) MX1_letAsk c n 0 [some (pO 0 r 0), some (pI x1)] [] m Q := by
  refine Wq.few (ls' := [some (pO 0 r 0), some (pI x1), none]) ⟨rfl, ⟨rfl, trivial⟩⟩ ?_
  refine Wq.aload_n (t := 0) (r := r) (j := 0) dX1_letAsk_0 rfl ?_
  refine Wq.getf (v := pO 7 r 0) dX1_letAsk_1 fl_X1_39 ⟨rfl, rfl, by decide⟩ rfl ?_
  refine Wq.iload_n (x := x1) dX1_letAsk_4 rfl ?_
  refine Wq.aaldP dX1_letAsk_5 h.1 ?_
  replace h := h.2
  refine Wq.astore_n (ls2 := [some (pO 0 r 0), some (pI x1), some (pO 4 r (ix x1))]) dX1_letAsk_6 (by decide) rfl ?_
  refine Wq.aload_n (t := 4) (r := r) (j := (ix x1)) dX1_letAsk_7 rfl ?_
  refine Wq.aload_n (t := 0) (r := r) (j := 0) dX1_letAsk_8 rfl ?_
  refine Wq.getf (v := pO 1 r 0) dX1_letAsk_9 fl_X1_31 ⟨rfl, rfl, by decide⟩ rfl ?_
  refine Wq.iconst (v := 3) dX1_letAsk_12 (by decide) ?_
  refine Wq.iald dX1_letAsk_13 rfl (vp_dec rfl) ?_
  refine Wq.putI dX1_letAsk_14 fw_X1_86 ⟨rfl, rfl, by decide⟩ ⟨rfl, by decide, by decide⟩ ⟨rfl, rfl⟩ ?_
  refine Wq.aload_n (t := 4) (r := r) (j := (ix x1)) dX1_letAsk_17 rfl ?_
  refine Wq.dup dX1_letAsk_18 rfl ?_
  refine Wq.getf (v := pI ((setI m 4 r (ix x1) 8 (m.1 r 1 0 (ix 3))).1 r 4 (ix x1) 7)) dX1_letAsk_19 fl_X1_89 ⟨rfl, rfl, by decide⟩ rfl ?_
  refine Wq.aload_n (t := 4) (r := r) (j := (ix x1)) dX1_letAsk_22 rfl ?_
  refine Wq.getf (v := pI ((setI m 4 r (ix x1) 8 (m.1 r 1 0 (ix 3))).1 r 4 (ix x1) 8)) dX1_letAsk_23 fl_X1_86 ⟨rfl, rfl, by decide⟩ rfl ?_
  refine Wq.iadd dX1_letAsk_26 ?_
  refine Wq.putI dX1_letAsk_27 fw_X1_89 ⟨rfl, rfl, by decide⟩ ⟨rfl, by decide, by decide⟩ ⟨rfl, rfl⟩ ?_
  refine Wq.aload_n (t := 0) (r := r) (j := 0) dX1_letAsk_30 rfl ?_
  refine Wq.aload_n (t := 4) (r := r) (j := (ix x1)) dX1_letAsk_31 rfl ?_
  refine Wq.callVV (As := [pO 4 r (ix x1)]) dX1_letAsk_32 fX1_beginToWait ml_X1_92 rfl (by decide) rfl (Nat.le_of_ble_eq_true rfl) (Nat.le_of_ble_eq_true rfl) ?_ (fun _ h9 => h9)
  refine Wq.few (ls' := [some (pO 0 r 0), some (pO 4 r (ix x1))]) ⟨rfl, ⟨rfl, trivial⟩⟩ ?_
  refine Wq.aload_n (t := 4) (r := r) (j := (ix x1)) dX1_beginToWait_0 rfl ?_
  refine Wq.iconst (v := 1) dX1_beginToWait_1 (by decide) ?_
  refine Wq.putI dX1_beginToWait_2 fw_X1_83 ⟨rfl, rfl, by decide⟩ ⟨rfl, by decide, by decide⟩ ⟨rfl, rfl⟩ ?_
  refine Wq.aload_n (t := 4) (r := r) (j := (ix x1)) dX1_beginToWait_5 rfl ?_
  refine Wq.aload_n (t := 0) (r := r) (j := 0) dX1_beginToWait_6 rfl ?_
  refine Wq.getf (v := pI ((setI (setI (setI m 4 r (ix x1) 8 (m.1 r 1 0 (ix 3))) 4 r (ix x1) 7 (((setI m 4 r (ix x1) 8 (m.1 r 1 0 (ix 3))).1 r 4 (ix x1) 7) + ((setI m 4 r (ix x1) 8 (m.1 r 1 0 (ix 3))).1 r 4 (ix x1) 8))) 4 r (ix x1) 0 1).1 r 0 0 3)) dX1_beginToWait_7 fl_X1_21 ⟨rfl, rfl, by decide⟩ rfl ?_
  refine Wq.putI dX1_beginToWait_10 fw_X1_146 ⟨rfl, rfl, by decide⟩ ⟨rfl, by decide, by decide⟩ ⟨rfl, rfl⟩ ?_
  refine Wq.aload_n (t := 0) (r := r) (j := 0) dX1_beginToWait_13 rfl ?_
  refine Wq.dup dX1_beginToWait_14 rfl ?_
  refine Wq.getf (v := pI ((setI (setI (setI (setI m 4 r (ix x1) 8 (m.1 r 1 0 (ix 3))) 4 r (ix x1) 7 (((setI m 4 r (ix x1) 8 (m.1 r 1 0 (ix 3))).1 r 4 (ix x1) 7) + ((setI m 4 r (ix x1) 8 (m.1 r 1 0 (ix 3))).1 r 4 (ix x1) 8))) 4 r (ix x1) 0 1) 4 r (ix x1) 6 ((setI (setI (setI m 4 r (ix x1) 8 (m.1 r 1 0 (ix 3))) 4 r (ix x1) 7 (((setI m 4 r (ix x1) 8 (m.1 r 1 0 (ix 3))).1 r 4 (ix x1) 7) + ((setI m 4 r (ix x1) 8 (m.1 r 1 0 (ix 3))).1 r 4 (ix x1) 8))) 4 r (ix x1) 0 1).1 r 0 0 3)).1 r 0 0 3)) dX1_beginToWait_15 fl_X1_21 ⟨rfl, rfl, by decide⟩ rfl ?_
  refine Wq.iconst (v := 1) dX1_beginToWait_18 (by decide) ?_
  refine Wq.iadd dX1_beginToWait_19 ?_
  refine Wq.putI dX1_beginToWait_20 fw_X1_21 ⟨rfl, rfl, by decide⟩ ⟨rfl, by decide, by decide⟩ ⟨rfl, rfl⟩ ?_
  refine Wq.vretV dX1_beginToWait_23 rfl ?_
  refine Wq.aload_n (t := 0) (r := r) (j := 0) dX1_letAsk_35 rfl ?_
  refine Wq.callVV (As := []) dX1_letAsk_36 fX1_giveSlotsOut ml_X1_77 rfl (by decide) rfl (Nat.le_of_ble_eq_true rfl) (Nat.le_of_ble_eq_true rfl) h (fun m2 h => ?_)
  refine Wq.aload_n (t := 0) (r := r) (j := 0) dX1_letAsk_39 rfl ?_
  refine Wq.iload_n (x := x1) dX1_letAsk_40 rfl ?_
  refine Wq.callVI (As := [pI x1]) dX1_letAsk_41 fX1_cellOf ml_X1_95 rfl (by decide) rfl (Nat.le_of_ble_eq_true rfl) (Nat.le_of_ble_eq_true rfl) h (fun r3 m4 h => ?_)
  refine Wq.iconst (v := 0) dX1_letAsk_44 (by decide) ?_
  refine Wq.callNI (As := [pI r3, pI 0]) dX1_letAsk_45 fX4_partOfCell nl_X1_99 rfl (Nat.le_of_ble_eq_true rfl) (Nat.le_of_ble_eq_true rfl) (suX4_partOfCell trivial) (fun x5 m9 e9 => ?_)
  obtain ⟨rfl, rfl⟩ := e9
  exact Wq.iret dX1_letAsk_48 (⟨_, rfl, rfl⟩) h
set_option maxHeartbeats 4000000 in
set_option maxRecDepth 20000 in
theorem sgX1_letQuit {g : GG} {d : Nat} {c n : Nat} {m : PM} {Q : Ou → PM → Nat → Nat → Prop} {r : Nat} {x1 : Int32} (h : (vp_in x1 12 ∧ Wp g (d + 2) MX1_cellOf 0 [some (pO 0 r 0), some (pI x1)] [] m (cI fun r1 m2 => ((r1 = (-1) → Wp g (d + 2) MX1_giveSlotsOut 0 [some (pO 0 r 0)] [] (setI (setI m2 4 r (ix x1) 0 0) 4 r (ix x1) 7 (((setI m2 4 r (ix x1) 0 0).1 r 4 (ix x1) 7) - (m.1 r 4 (ix x1) 8))) (cV fun m5 => Q (.inl (some (pI (m.1 r 4 (ix x1) 8)))) m5 c n)) ∧ (¬ r1 = (-1) → (vp_in r1 160 ∧ ((((setI m2 2 r 0 (ix r1) (-1)).1 r 1 0 (ix 2)) ≤ (r1 / 16) → Wp g (d + 2) MX1_giveSlotsOut 0 [some (pO 0 r 0)] [] (setI (setI (setI m2 2 r 0 (ix r1) (-1)) 4 r (ix x1) 0 0) 4 r (ix x1) 7 (((setI (setI m2 2 r 0 (ix r1) (-1)) 4 r (ix x1) 0 0).1 r 4 (ix x1) 7) - (m.1 r 4 (ix x1) 8))) (cV fun m8 => Q (.inl (some (pI (m.1 r 4 (ix x1) 8)))) m8 c n)) ∧ (¬ ((setI m2 2 r 0 (ix r1) (-1)).1 r 1 0 (ix 2)) ≤ (r1 / 16) → Wp g (d + 2) MX1_giveSlotsOut 0 [some (pO 0 r 0)] [] (setI (setI (setI m2 2 r 0 (ix r1) (-1)) 4 r (ix x1) 0 0) 4 r (ix x1) 7 (((setI (setI m2 2 r 0 (ix r1) (-1)) 4 r (ix x1) 0 0).1 r 4 (ix x1) 7) - 0)) (cV fun m10 => Q (.inl (some (pI 0))) m10 c n))))))))) : Wq g (d + 3) MX1_letQuit c n 0 [some (pO 0 r 0), some (pI x1)] [] m Q := by
  refine Wq.few (ls' := [some (pO 0 r 0), some (pI x1), none, none, none]) ⟨rfl, ⟨rfl, trivial⟩⟩ ?_
  refine Wq.aload_n (t := 0) (r := r) (j := 0) dX1_letQuit_0 rfl ?_
  refine Wq.getf (v := pO 7 r 0) dX1_letQuit_1 fl_X1_39 ⟨rfl, rfl, by decide⟩ rfl ?_
  refine Wq.iload_n (x := x1) dX1_letQuit_4 rfl ?_
  refine Wq.aaldP dX1_letQuit_5 h.1 ?_
  replace h := h.2
  refine Wq.astore_n (ls2 := [some (pO 0 r 0), some (pI x1), some (pO 4 r (ix x1)), none, none]) dX1_letQuit_6 (by decide) rfl ?_
  refine Wq.aload_n (t := 4) (r := r) (j := (ix x1)) dX1_letQuit_7 rfl ?_
  refine Wq.getf (v := pI (m.1 r 4 (ix x1) 8)) dX1_letQuit_8 fl_X1_86 ⟨rfl, rfl, by decide⟩ rfl ?_
  refine Wq.istore_n (ls2 := [some (pO 0 r 0), some (pI x1), some (pO 4 r (ix x1)), some (pI (m.1 r 4 (ix x1) 8)), none]) dX1_letQuit_11 (by decide) rfl ?_
  refine Wq.aload_n (t := 0) (r := r) (j := 0) dX1_letQuit_12 rfl ?_
  refine Wq.iload_n (x := x1) dX1_letQuit_13 rfl ?_
  refine Wq.callVI (As := [pI x1]) dX1_letQuit_14 fX1_cellOf ml_X1_95 rfl (by decide) rfl (Nat.le_of_ble_eq_true rfl) (Nat.le_of_ble_eq_true rfl) h (fun r1 m2 h => ?_)
  refine Wq.istore (ls2 := [some (pO 0 r 0), some (pI x1), some (pO 4 r (ix x1)), some (pI (m.1 r 4 (ix x1) 8)), some (pI r1)]) dX1_letQuit_17 (by decide) rfl ?_
  refine Wq.iload (x := r1) dX1_letQuit_19 rfl ?_
  refine Wq.iconst (v := (-1)) dX1_letQuit_21 (by decide) ?_
  refine Wq.icmpeq (tgt := 53) dX1_letQuit_22 (by decide) (fun q3 => ?_) (fun q3 => ?_)
  · replace h := h.1 q3
    refine Wq.aload_n (t := 4) (r := r) (j := (ix x1)) dX1_letQuit_53 rfl ?_
    refine Wq.iconst (v := 0) dX1_letQuit_54 (by decide) ?_
    refine Wq.putI dX1_letQuit_55 fw_X1_83 ⟨rfl, rfl, by decide⟩ ⟨rfl, by decide, by decide⟩ ⟨rfl, rfl⟩ ?_
    refine Wq.aload_n (t := 4) (r := r) (j := (ix x1)) dX1_letQuit_58 rfl ?_
    refine Wq.dup dX1_letQuit_59 rfl ?_
    refine Wq.getf (v := pI ((setI m2 4 r (ix x1) 0 0).1 r 4 (ix x1) 7)) dX1_letQuit_60 fl_X1_89 ⟨rfl, rfl, by decide⟩ rfl ?_
    refine Wq.iload_n (x := (m.1 r 4 (ix x1) 8)) dX1_letQuit_63 rfl ?_
    refine Wq.isub dX1_letQuit_64 ?_
    refine Wq.putI dX1_letQuit_65 fw_X1_89 ⟨rfl, rfl, by decide⟩ ⟨rfl, by decide, by decide⟩ ⟨rfl, rfl⟩ ?_
    refine Wq.aload_n (t := 0) (r := r) (j := 0) dX1_letQuit_68 rfl ?_
    refine Wq.callVV (As := []) dX1_letQuit_69 fX1_giveSlotsOut ml_X1_77 rfl (by decide) rfl (Nat.le_of_ble_eq_true rfl) (Nat.le_of_ble_eq_true rfl) h (fun m5 h => ?_)
    refine Wq.iload_n (x := (m.1 r 4 (ix x1) 8)) dX1_letQuit_72 rfl ?_
    exact Wq.iret dX1_letQuit_73 (⟨_, rfl, rfl⟩) h
  · replace h := h.2 q3
    refine Wq.aload_n (t := 0) (r := r) (j := 0) dX1_letQuit_25 rfl ?_
    refine Wq.getf (v := pO 2 r 0) dX1_letQuit_26 fl_X1_34 ⟨rfl, rfl, by decide⟩ rfl ?_
    refine Wq.iload (x := r1) dX1_letQuit_29 rfl ?_
    refine Wq.iconst (v := (-1)) dX1_letQuit_31 (by decide) ?_
    refine Wq.iast dX1_letQuit_32 rfl h.1 ?_
    replace h := h.2
    refine Wq.iload (x := r1) dX1_letQuit_33 rfl ?_
    refine Wq.callNI (As := [pI r1]) dX1_letQuit_35 fX4_daysTo nl_X1_103 rfl (Nat.le_of_ble_eq_true rfl) (Nat.le_of_ble_eq_true rfl) (suX4_daysTo trivial) (fun x11 m9 e9 => ?_)
    obtain ⟨rfl, rfl⟩ := e9
    refine Wq.aload_n (t := 0) (r := r) (j := 0) dX1_letQuit_38 rfl ?_
    refine Wq.getf (v := pO 1 r 0) dX1_letQuit_39 fl_X1_31 ⟨rfl, rfl, by decide⟩ rfl ?_
    refine Wq.iconst (v := 2) dX1_letQuit_42 (by decide) ?_
    refine Wq.iald dX1_letQuit_43 rfl (vp_dec rfl) ?_
    refine Wq.icmpge (tgt := 51) dX1_letQuit_44 (by decide) (fun q6 => ?_) (fun q6 => ?_)
    · replace h := h.1 q6
      refine Wq.iload_n (x := (m.1 r 4 (ix x1) 8)) dX1_letQuit_51 rfl ?_
      refine Wq.istore_n (ls2 := [some (pO 0 r 0), some (pI x1), some (pO 4 r (ix x1)), some (pI (m.1 r 4 (ix x1) 8)), some (pI r1)]) dX1_letQuit_52 (by decide) rfl ?_
      refine Wq.aload_n (t := 4) (r := r) (j := (ix x1)) dX1_letQuit_53 rfl ?_
      refine Wq.iconst (v := 0) dX1_letQuit_54 (by decide) ?_
      refine Wq.putI dX1_letQuit_55 fw_X1_83 ⟨rfl, rfl, by decide⟩ ⟨rfl, by decide, by decide⟩ ⟨rfl, rfl⟩ ?_
      refine Wq.aload_n (t := 4) (r := r) (j := (ix x1)) dX1_letQuit_58 rfl ?_
      refine Wq.dup dX1_letQuit_59 rfl ?_
      refine Wq.getf (v := pI ((setI (setI m2 2 r 0 (ix r1) (-1)) 4 r (ix x1) 0 0).1 r 4 (ix x1) 7)) dX1_letQuit_60 fl_X1_89 ⟨rfl, rfl, by decide⟩ rfl ?_
      refine Wq.iload_n (x := (m.1 r 4 (ix x1) 8)) dX1_letQuit_63 rfl ?_
      refine Wq.isub dX1_letQuit_64 ?_
      refine Wq.putI dX1_letQuit_65 fw_X1_89 ⟨rfl, rfl, by decide⟩ ⟨rfl, by decide, by decide⟩ ⟨rfl, rfl⟩ ?_
      refine Wq.aload_n (t := 0) (r := r) (j := 0) dX1_letQuit_68 rfl ?_
      refine Wq.callVV (As := []) dX1_letQuit_69 fX1_giveSlotsOut ml_X1_77 rfl (by decide) rfl (Nat.le_of_ble_eq_true rfl) (Nat.le_of_ble_eq_true rfl) h (fun m8 h => ?_)
      refine Wq.iload_n (x := (m.1 r 4 (ix x1) 8)) dX1_letQuit_72 rfl ?_
      exact Wq.iret dX1_letQuit_73 (⟨_, rfl, rfl⟩) h
    · replace h := h.2 q6
      refine Wq.iconst (v := 0) dX1_letQuit_47 (by decide) ?_
      refine Wq.goto (tgt := 52) dX1_letQuit_48 (by decide) ?_
      refine Wq.istore_n (ls2 := [some (pO 0 r 0), some (pI x1), some (pO 4 r (ix x1)), some (pI 0), some (pI r1)]) dX1_letQuit_52 (by decide) rfl ?_
      refine Wq.aload_n (t := 4) (r := r) (j := (ix x1)) dX1_letQuit_53 rfl ?_
      refine Wq.iconst (v := 0) dX1_letQuit_54 (by decide) ?_
      refine Wq.putI dX1_letQuit_55 fw_X1_83 ⟨rfl, rfl, by decide⟩ ⟨rfl, by decide, by decide⟩ ⟨rfl, rfl⟩ ?_
      refine Wq.aload_n (t := 4) (r := r) (j := (ix x1)) dX1_letQuit_58 rfl ?_
      refine Wq.dup dX1_letQuit_59 rfl ?_
      refine Wq.getf (v := pI ((setI (setI m2 2 r 0 (ix r1) (-1)) 4 r (ix x1) 0 0).1 r 4 (ix x1) 7)) dX1_letQuit_60 fl_X1_89 ⟨rfl, rfl, by decide⟩ rfl ?_
      refine Wq.iload_n (x := 0) dX1_letQuit_63 rfl ?_
      refine Wq.isub dX1_letQuit_64 ?_
      refine Wq.putI dX1_letQuit_65 fw_X1_89 ⟨rfl, rfl, by decide⟩ ⟨rfl, by decide, by decide⟩ ⟨rfl, rfl⟩ ?_
      refine Wq.aload_n (t := 0) (r := r) (j := 0) dX1_letQuit_68 rfl ?_
      refine Wq.callVV (As := []) dX1_letQuit_69 fX1_giveSlotsOut ml_X1_77 rfl (by decide) rfl (Nat.le_of_ble_eq_true rfl) (Nat.le_of_ble_eq_true rfl) h (fun m10 h => ?_)
      refine Wq.iload_n (x := 0) dX1_letQuit_72 rfl ?_
      exact Wq.iret dX1_letQuit_73 (⟨_, rfl, rfl⟩) h
set_option maxHeartbeats 4000000 in
set_option maxRecDepth 20000 in
theorem sgX1_cancelMorning {g : GG} {d : Nat} {c n : Nat} {m : PM} {Q : Ou → PM → Nat → Nat → Prop} {r : Nat} {x1 : Int32} {x2 : Int32} (h : Wq g (d + 3) MX1_cancelMorning c n 5 [some (pO 0 r 0), some (pI x1), some (pI x2), some (pI 0), some (pI 0), none, none] [] m Q) : Wq g (d + 3) MX1_cancelMorning c n 0 [some (pO 0 r 0), some (pI x1), some (pI x2)] [] m Q := by
  refine Wq.few (ls' := [some (pO 0 r 0), some (pI x1), some (pI x2), none, none, none, none]) ⟨rfl, ⟨rfl, ⟨rfl, trivial⟩⟩⟩ ?_
  refine Wq.iconst (v := 0) dX1_cancelMorning_0 (by decide) ?_
  refine Wq.istore_n (ls2 := [some (pO 0 r 0), some (pI x1), some (pI x2), some (pI 0), none, none, none]) dX1_cancelMorning_1 (by decide) rfl ?_
  refine Wq.iconst (v := 0) dX1_cancelMorning_2 (by decide) ?_
  refine Wq.istore (ls2 := [some (pO 0 r 0), some (pI x1), some (pI x2), some (pI 0), some (pI 0), none, none]) dX1_cancelMorning_3 (by decide) rfl ?_
  exact h
set_option maxHeartbeats 4000000 in
set_option maxRecDepth 20000 in
theorem sgX1_cancelMorning_5 {g : GG} {d : Nat} {c n : Nat} {m : PM} {Q : Ou → PM → Nat → Nat → Prop} {r : Nat} {x1 : Int32} {x2 : Int32} {x3 : Int32} {x4 : Int32} (h : ((2 ≤ x4 → (vp_in x1 4 ∧ Wp g (d + 2) MX1_giveSlotsOut 0 [some (pO 0 r 0)] [] (setI m 5 r (ix x1) 2 ((m.1 r 5 (ix x1) 2) + 1)) (cV fun m3 => Q (.inl (some (pI x3))) m3 c n))) ∧ (¬ 2 ≤ x4 → (vp_in (((x2 * 16) + (x4 * 4)) + x1) 160 ∧ (vp_in (((x2 * 16) + (x4 * 4)) + x1) 160 ∧ ((¬ ((¬ (m.1 r 2 0 (ix (((x2 * 16) + (x4 * 4)) + x1))) < 0) ∧ (¬ ((setI m 2 r 0 (ix (((x2 * 16) + (x4 * 4)) + x1)) (-2)).1 r 0 0 2) ≤ (m.1 r 2 0 (ix (((x2 * 16) + (x4 * 4)) + x1))))) → Wq g (d + 3) MX1_cancelMorning c n 5 [some (pO 0 r 0), some (pI x1), some (pI x2), some (pI x3), some (pI (x4 + 1)), none, none] [] (setI m 2 r 0 (ix (((x2 * 16) + (x4 * 4)) + x1)) (-2)) Q) ∧ ((¬ (m.1 r 2 0 (ix (((x2 * 16) + (x4 * 4)) + x1))) < 0) ∧ (¬ ((setI m 2 r 0 (ix (((x2 * 16) + (x4 * 4)) + x1)) (-2)).1 r 0 0 2) ≤ (m.1 r 2 0 (ix (((x2 * 16) + (x4 * 4)) + x1)))) → (vp_in (m.1 r 2 0 (ix (((x2 * 16) + (x4 * 4)) + x1))) 12 ∧ (vp_in (m.1 r 2 0 (ix (((x2 * 16) + (x4 * 4)) + x1))) 12 ∧ Wq g (d + 3) MX1_cancelMorning c n 5 [some (pO 0 r 0), some (pI x1), some (pI x2), some (pI (x3 + 1)), some (pI (x4 + 1)), none, none] [] (setI (setI (setI (setI (setI m 2 r 0 (ix (((x2 * 16) + (x4 * 4)) + x1)) (-2)) 4 r (ix (m.1 r 2 0 (ix (((x2 * 16) + (x4 * 4)) + x1)))) 5 (((setI m 2 r 0 (ix (((x2 * 16) + (x4 * 4)) + x1)) (-2)).1 r 4 (ix (m.1 r 2 0 (ix (((x2 * 16) + (x4 * 4)) + x1)))) 5) + 1)) 4 r (ix (m.1 r 2 0 (ix (((x2 * 16) + (x4 * 4)) + x1)))) 0 1) 4 r (ix (m.1 r 2 0 (ix (((x2 * 16) + (x4 * 4)) + x1)))) 6 ((setI (setI (setI m 2 r 0 (ix (((x2 * 16) + (x4 * 4)) + x1)) (-2)) 4 r (ix (m.1 r 2 0 (ix (((x2 * 16) + (x4 * 4)) + x1)))) 5 (((setI m 2 r 0 (ix (((x2 * 16) + (x4 * 4)) + x1)) (-2)).1 r 4 (ix (m.1 r 2 0 (ix (((x2 * 16) + (x4 * 4)) + x1)))) 5) + 1)) 4 r (ix (m.1 r 2 0 (ix (((x2 * 16) + (x4 * 4)) + x1)))) 0 1).1 r 0 0 3)) 0 r 0 3 (((setI (setI (setI (setI m 2 r 0 (ix (((x2 * 16) + (x4 * 4)) + x1)) (-2)) 4 r (ix (m.1 r 2 0 (ix (((x2 * 16) + (x4 * 4)) + x1)))) 5 (((setI m 2 r 0 (ix (((x2 * 16) + (x4 * 4)) + x1)) (-2)).1 r 4 (ix (m.1 r 2 0 (ix (((x2 * 16) + (x4 * 4)) + x1)))) 5) + 1)) 4 r (ix (m.1 r 2 0 (ix (((x2 * 16) + (x4 * 4)) + x1)))) 0 1) 4 r (ix (m.1 r 2 0 (ix (((x2 * 16) + (x4 * 4)) + x1)))) 6 ((setI (setI (setI m 2 r 0 (ix (((x2 * 16) + (x4 * 4)) + x1)) (-2)) 4 r (ix (m.1 r 2 0 (ix (((x2 * 16) + (x4 * 4)) + x1)))) 5 (((setI m 2 r 0 (ix (((x2 * 16) + (x4 * 4)) + x1)) (-2)).1 r 4 (ix (m.1 r 2 0 (ix (((x2 * 16) + (x4 * 4)) + x1)))) 5) + 1)) 4 r (ix (m.1 r 2 0 (ix (((x2 * 16) + (x4 * 4)) + x1)))) 0 1).1 r 0 0 3)).1 r 0 0 3) + 1)) Q))))))))) : Wq g (d + 3) MX1_cancelMorning c n 5 [some (pO 0 r 0), some (pI x1), some (pI x2), some (pI x3), some (pI x4), none, none] [] m Q := by
  refine Wq.iload (x := x4) dX1_cancelMorning_5 rfl ?_
  refine Wq.iconst (v := 2) dX1_cancelMorning_7 (by decide) ?_
  refine Wq.icmpge (tgt := 83) dX1_cancelMorning_8 (by decide) (fun q1 => ?_) (fun q1 => ?_)
  · replace h := h.1 q1
    refine Wq.aload_n (t := 0) (r := r) (j := 0) dX1_cancelMorning_83 rfl ?_
    refine Wq.getf (v := pO 8 r 0) dX1_cancelMorning_84 fl_X1_45 ⟨rfl, rfl, by decide⟩ rfl ?_
    refine Wq.iload_n (x := x1) dX1_cancelMorning_87 rfl ?_
    refine Wq.aaldE dX1_cancelMorning_88 h.1 ?_
    replace h := h.2
    refine Wq.dup dX1_cancelMorning_89 rfl ?_
    refine Wq.getf (v := pI (m.1 r 5 (ix x1) 2)) dX1_cancelMorning_90 fl_X1_117 ⟨rfl, rfl, by decide⟩ rfl ?_
    refine Wq.iconst (v := 1) dX1_cancelMorning_93 (by decide) ?_
    refine Wq.iadd dX1_cancelMorning_94 ?_
    refine Wq.putI dX1_cancelMorning_95 fw_X1_117 ⟨rfl, rfl, by decide⟩ ⟨rfl, by decide, by decide⟩ ⟨rfl, rfl⟩ ?_
    refine Wq.aload_n (t := 0) (r := r) (j := 0) dX1_cancelMorning_98 rfl ?_
    refine Wq.callVV (As := []) dX1_cancelMorning_99 fX1_giveSlotsOut ml_X1_77 rfl (by decide) rfl (Nat.le_of_ble_eq_true rfl) (Nat.le_of_ble_eq_true rfl) h (fun m3 h => ?_)
    refine Wq.iload_n (x := x3) dX1_cancelMorning_102 rfl ?_
    exact Wq.iret dX1_cancelMorning_103 (⟨_, rfl, rfl⟩) h
  · replace h := h.2 q1
    refine Wq.iload_n (x := x1) dX1_cancelMorning_11 rfl ?_
    refine Wq.iload_n (x := x2) dX1_cancelMorning_12 rfl ?_
    refine Wq.iload (x := x4) dX1_cancelMorning_13 rfl ?_
    refine Wq.callNI (As := [pI x1, pI x2, pI x4]) dX1_cancelMorning_15 fX4_cellAt nl_X1_106 rfl (Nat.le_of_ble_eq_true rfl) (Nat.le_of_ble_eq_true rfl) (suX4_cellAt trivial) (fun x6 m9 e9 => ?_)
    obtain ⟨rfl, rfl⟩ := e9
    refine Wq.istore (ls2 := [some (pO 0 r 0), some (pI x1), some (pI x2), some (pI x3), some (pI x4), some (pI (((x2 * 16) + (x4 * 4)) + x1)), none]) dX1_cancelMorning_18 (by decide) rfl ?_
    refine Wq.aload_n (t := 0) (r := r) (j := 0) dX1_cancelMorning_20 rfl ?_
    refine Wq.getf (v := pO 2 r 0) dX1_cancelMorning_21 fl_X1_34 ⟨rfl, rfl, by decide⟩ rfl ?_
    refine Wq.iload (x := (((x2 * 16) + (x4 * 4)) + x1)) dX1_cancelMorning_24 rfl ?_
    refine Wq.iald dX1_cancelMorning_26 rfl h.1 ?_
    replace h := h.2
    refine Wq.istore (ls2 := [some (pO 0 r 0), some (pI x1), some (pI x2), some (pI x3), some (pI x4), some (pI (((x2 * 16) + (x4 * 4)) + x1)), some (pI (m.1 r 2 0 (ix (((x2 * 16) + (x4 * 4)) + x1))))]) dX1_cancelMorning_27 (by decide) rfl ?_
    refine Wq.aload_n (t := 0) (r := r) (j := 0) dX1_cancelMorning_29 rfl ?_
    refine Wq.getf (v := pO 2 r 0) dX1_cancelMorning_30 fl_X1_34 ⟨rfl, rfl, by decide⟩ rfl ?_
    refine Wq.iload (x := (((x2 * 16) + (x4 * 4)) + x1)) dX1_cancelMorning_33 rfl ?_
    refine Wq.bipush (v := (-2)) dX1_cancelMorning_35 (by decide) ?_
    refine Wq.iast dX1_cancelMorning_37 rfl h.1 ?_
    replace h := h.2
    refine Wq.aload_n (t := 0) (r := r) (j := 0) dX1_cancelMorning_38 rfl ?_
    refine Wq.iload (x := (m.1 r 2 0 (ix (((x2 * 16) + (x4 * 4)) + x1)))) dX1_cancelMorning_39 rfl ?_
    refine Wq.callVI (As := [pI (m.1 r 2 0 (ix (((x2 * 16) + (x4 * 4)) + x1)))]) dX1_cancelMorning_41 fX1_hasPupil ml_X1_110 rfl (by decide) rfl (Nat.le_of_ble_eq_true rfl) (Nat.le_of_ble_eq_true rfl) (suX1_hasPupil trivial) (fun x5 m9 e9 => ?_)
    obtain ⟨rfl, rfl⟩ := e9
    refine Wq.ifeq (tgt := 77) dX1_cancelMorning_44 (by decide) (fun q4 => ?_) (fun q4 => ?_)
    · replace h := h.1 (bI_0 q4)
      refine Wq.iinc (x := x4) (ls2 := [some (pO 0 r 0), some (pI x1), some (pI x2), some (pI x3), some (pI (x4 + 1)), some (pI (((x2 * 16) + (x4 * 4)) + x1)), some (pI (m.1 r 2 0 (ix (((x2 * 16) + (x4 * 4)) + x1))))]) dX1_cancelMorning_77 rfl (by decide) rfl ?_
      refine Wq.goto (tgt := 5) dX1_cancelMorning_80 (by decide) ?_
      refine Wq.few (ls' := [some (pO 0 r 0), some (pI x1), some (pI x2), some (pI x3), some (pI (x4 + 1)), none, none]) ⟨rfl, ⟨rfl, ⟨rfl, ⟨rfl, ⟨rfl, trivial⟩⟩⟩⟩⟩ ?_
      exact h
    · replace h := h.2 (bI_1 q4)
      refine Wq.aload_n (t := 0) (r := r) (j := 0) dX1_cancelMorning_47 rfl ?_
      refine Wq.getf (v := pO 7 r 0) dX1_cancelMorning_48 fl_X1_39 ⟨rfl, rfl, by decide⟩ rfl ?_
      refine Wq.iload (x := (m.1 r 2 0 (ix (((x2 * 16) + (x4 * 4)) + x1)))) dX1_cancelMorning_51 rfl ?_
      refine Wq.aaldP dX1_cancelMorning_53 h.1 ?_
      replace h := h.2
      refine Wq.dup dX1_cancelMorning_54 rfl ?_
      refine Wq.getf (v := pI ((setI m 2 r 0 (ix (((x2 * 16) + (x4 * 4)) + x1)) (-2)).1 r 4 (ix (m.1 r 2 0 (ix (((x2 * 16) + (x4 * 4)) + x1)))) 5)) dX1_cancelMorning_55 fl_X1_114 ⟨rfl, rfl, by decide⟩ rfl ?_
      refine Wq.iconst (v := 1) dX1_cancelMorning_58 (by decide) ?_
      refine Wq.iadd dX1_cancelMorning_59 ?_
      refine Wq.putI dX1_cancelMorning_60 fw_X1_114 ⟨rfl, rfl, by decide⟩ ⟨rfl, by decide, by decide⟩ ⟨rfl, rfl⟩ ?_
      refine Wq.aload_n (t := 0) (r := r) (j := 0) dX1_cancelMorning_63 rfl ?_
      refine Wq.aload_n (t := 0) (r := r) (j := 0) dX1_cancelMorning_64 rfl ?_
      refine Wq.getf (v := pO 7 r 0) dX1_cancelMorning_65 fl_X1_39 ⟨rfl, rfl, by decide⟩ rfl ?_
      refine Wq.iload (x := (m.1 r 2 0 (ix (((x2 * 16) + (x4 * 4)) + x1)))) dX1_cancelMorning_68 rfl ?_
      refine Wq.aaldP dX1_cancelMorning_70 h.1 ?_
      replace h := h.2
      refine Wq.callVV (As := [pO 4 r (ix (m.1 r 2 0 (ix (((x2 * 16) + (x4 * 4)) + x1))))]) dX1_cancelMorning_71 fX1_beginToWait ml_X1_92 rfl (by decide) rfl (Nat.le_of_ble_eq_true rfl) (Nat.le_of_ble_eq_true rfl) ?_ (fun _ h9 => h9)
      refine Wq.few (ls' := [some (pO 0 r 0), some (pO 4 r (ix (m.1 r 2 0 (ix (((x2 * 16) + (x4 * 4)) + x1)))))]) ⟨rfl, ⟨rfl, trivial⟩⟩ ?_
      refine Wq.aload_n (t := 4) (r := r) (j := (ix (m.1 r 2 0 (ix (((x2 * 16) + (x4 * 4)) + x1))))) dX1_beginToWait_0 rfl ?_
      refine Wq.iconst (v := 1) dX1_beginToWait_1 (by decide) ?_
      refine Wq.putI dX1_beginToWait_2 fw_X1_83 ⟨rfl, rfl, by decide⟩ ⟨rfl, by decide, by decide⟩ ⟨rfl, rfl⟩ ?_
      refine Wq.aload_n (t := 4) (r := r) (j := (ix (m.1 r 2 0 (ix (((x2 * 16) + (x4 * 4)) + x1))))) dX1_beginToWait_5 rfl ?_
      refine Wq.aload_n (t := 0) (r := r) (j := 0) dX1_beginToWait_6 rfl ?_
      refine Wq.getf (v := pI ((setI (setI (setI m 2 r 0 (ix (((x2 * 16) + (x4 * 4)) + x1)) (-2)) 4 r (ix (m.1 r 2 0 (ix (((x2 * 16) + (x4 * 4)) + x1)))) 5 (((setI m 2 r 0 (ix (((x2 * 16) + (x4 * 4)) + x1)) (-2)).1 r 4 (ix (m.1 r 2 0 (ix (((x2 * 16) + (x4 * 4)) + x1)))) 5) + 1)) 4 r (ix (m.1 r 2 0 (ix (((x2 * 16) + (x4 * 4)) + x1)))) 0 1).1 r 0 0 3)) dX1_beginToWait_7 fl_X1_21 ⟨rfl, rfl, by decide⟩ rfl ?_
      refine Wq.putI dX1_beginToWait_10 fw_X1_146 ⟨rfl, rfl, by decide⟩ ⟨rfl, by decide, by decide⟩ ⟨rfl, rfl⟩ ?_
      refine Wq.aload_n (t := 0) (r := r) (j := 0) dX1_beginToWait_13 rfl ?_
      refine Wq.dup dX1_beginToWait_14 rfl ?_
      refine Wq.getf (v := pI ((setI (setI (setI (setI m 2 r 0 (ix (((x2 * 16) + (x4 * 4)) + x1)) (-2)) 4 r (ix (m.1 r 2 0 (ix (((x2 * 16) + (x4 * 4)) + x1)))) 5 (((setI m 2 r 0 (ix (((x2 * 16) + (x4 * 4)) + x1)) (-2)).1 r 4 (ix (m.1 r 2 0 (ix (((x2 * 16) + (x4 * 4)) + x1)))) 5) + 1)) 4 r (ix (m.1 r 2 0 (ix (((x2 * 16) + (x4 * 4)) + x1)))) 0 1) 4 r (ix (m.1 r 2 0 (ix (((x2 * 16) + (x4 * 4)) + x1)))) 6 ((setI (setI (setI m 2 r 0 (ix (((x2 * 16) + (x4 * 4)) + x1)) (-2)) 4 r (ix (m.1 r 2 0 (ix (((x2 * 16) + (x4 * 4)) + x1)))) 5 (((setI m 2 r 0 (ix (((x2 * 16) + (x4 * 4)) + x1)) (-2)).1 r 4 (ix (m.1 r 2 0 (ix (((x2 * 16) + (x4 * 4)) + x1)))) 5) + 1)) 4 r (ix (m.1 r 2 0 (ix (((x2 * 16) + (x4 * 4)) + x1)))) 0 1).1 r 0 0 3)).1 r 0 0 3)) dX1_beginToWait_15 fl_X1_21 ⟨rfl, rfl, by decide⟩ rfl ?_
      refine Wq.iconst (v := 1) dX1_beginToWait_18 (by decide) ?_
      refine Wq.iadd dX1_beginToWait_19 ?_
      refine Wq.putI dX1_beginToWait_20 fw_X1_21 ⟨rfl, rfl, by decide⟩ ⟨rfl, by decide, by decide⟩ ⟨rfl, rfl⟩ ?_
      refine Wq.vretV dX1_beginToWait_23 rfl ?_
      refine Wq.iinc (x := x3) (ls2 := [some (pO 0 r 0), some (pI x1), some (pI x2), some (pI (x3 + 1)), some (pI x4), some (pI (((x2 * 16) + (x4 * 4)) + x1)), some (pI (m.1 r 2 0 (ix (((x2 * 16) + (x4 * 4)) + x1))))]) dX1_cancelMorning_74 rfl (by decide) rfl ?_
      refine Wq.iinc (x := x4) (ls2 := [some (pO 0 r 0), some (pI x1), some (pI x2), some (pI (x3 + 1)), some (pI (x4 + 1)), some (pI (((x2 * 16) + (x4 * 4)) + x1)), some (pI (m.1 r 2 0 (ix (((x2 * 16) + (x4 * 4)) + x1))))]) dX1_cancelMorning_77 rfl (by decide) rfl ?_
      refine Wq.goto (tgt := 5) dX1_cancelMorning_80 (by decide) ?_
      refine Wq.few (ls' := [some (pO 0 r 0), some (pI x1), some (pI x2), some (pI (x3 + 1)), some (pI (x4 + 1)), none, none]) ⟨rfl, ⟨rfl, ⟨rfl, ⟨rfl, ⟨rfl, trivial⟩⟩⟩⟩⟩ ?_
      exact h
set_option maxHeartbeats 4000000 in
set_option maxRecDepth 20000 in
theorem sgX1_goOn {g : GG} {d : Nat} {c n : Nat} {m : PM} {Q : Ou → PM → Nat → Nat → Prop} {r : Nat} (h : Wq g (d + 3) MX1_goOn c n 4 [some (pO 0 r 0), some (pI 0), some (pI 0)] [] m Q) : Wq g (d + 3) MX1_goOn c n 0 [some (pO 0 r 0)] [] m Q := by
  refine Wq.few (ls' := [some (pO 0 r 0), none, none]) ⟨rfl, trivial⟩ ?_
  refine Wq.iconst (v := 0) dX1_goOn_0 (by decide) ?_
  refine Wq.istore_n (ls2 := [some (pO 0 r 0), some (pI 0), none]) dX1_goOn_1 (by decide) rfl ?_
  refine Wq.iconst (v := 0) dX1_goOn_2 (by decide) ?_
  refine Wq.istore_n (ls2 := [some (pO 0 r 0), some (pI 0), some (pI 0)]) dX1_goOn_3 (by decide) rfl ?_
  exact h
set_option maxHeartbeats 4000000 in
set_option maxRecDepth 20000 in
theorem sgX1_goOn_4 {g : GG} {d : Nat} {c n : Nat} {m : PM} {Q : Ou → PM → Nat → Nat → Prop} {r : Nat} {x1 : Int32} {x2 : Int32} (h : ((16 ≤ x2 → Wq g (d + 3) MX1_goOn c n 91 [some (pO 0 r 0), some (pI x1), some (pI 0)] [] (setR (setI (setI m 0 r 0 4 ((m.1 r 0 0 4) + x1)) 0 r 0 0 (((setI m 0 r 0 4 ((m.1 r 0 0 4) + x1)).1 r 0 0 0) + 1)) 2 r 0 (va_cpy ((setI (setI m 0 r 0 4 ((m.1 r 0 0 4) + x1)) 0 r 0 0 (((setI m 0 r 0 4 ((m.1 r 0 0 4) + x1)).1 r 0 0 0) + 1)).1 r 2 0) ((setI (setI m 0 r 0 4 ((m.1 r 0 0 4) + x1)) 0 r 0 0 (((setI m 0 r 0 4 ((m.1 r 0 0 4) + x1)).1 r 0 0 0) + 1)).1 r 2 0) (ix 16) (ix 0) (ix (160 - 16)))) Q) ∧ (¬ 16 ≤ x2 → (vp_in x2 160 ∧ ((¬ ((¬ (m.1 r 2 0 (ix x2)) < 0) ∧ (¬ (m.1 r 0 0 2) ≤ (m.1 r 2 0 (ix x2)))) → Wq g (d + 3) MX1_goOn c n 4 [some (pO 0 r 0), some (pI x1), some (pI (x2 + 1))] [] m Q) ∧ ((¬ (m.1 r 2 0 (ix x2)) < 0) ∧ (¬ (m.1 r 0 0 2) ≤ (m.1 r 2 0 (ix x2))) → (vp_in x2 160 ∧ (vp_in (m.1 r 2 0 (ix x2)) 12 ∧ Wq g (d + 3) MX1_goOn c n 4 [some (pO 0 r 0), some (pI (x1 + 1)), some (pI (x2 + 1))] [] (setI m 4 r (ix (m.1 r 2 0 (ix x2))) 0 0) Q)))))))) : Wq g (d + 3) MX1_goOn c n 4 [some (pO 0 r 0), some (pI x1), some (pI x2)] [] m Q := by
  refine Wq.iload_n (x := x2) dX1_goOn_4 rfl ?_
  refine Wq.bipush (v := 16) dX1_goOn_5 (by decide) ?_
  refine Wq.icmpge (tgt := 47) dX1_goOn_7 (by decide) (fun q1 => ?_) (fun q1 => ?_)
  · replace h := h.1 q1
    refine Wq.aload_n (t := 0) (r := r) (j := 0) dX1_goOn_47 rfl ?_
    refine Wq.dup dX1_goOn_48 rfl ?_
    refine Wq.getf (v := pI (m.1 r 0 0 4)) dX1_goOn_49 fl_X1_24 ⟨rfl, rfl, by decide⟩ rfl ?_
    refine Wq.iload_n (x := x1) dX1_goOn_52 rfl ?_
    refine Wq.iadd dX1_goOn_53 ?_
    refine Wq.putI dX1_goOn_54 fw_X1_24 ⟨rfl, rfl, by decide⟩ ⟨rfl, by decide, by decide⟩ ⟨rfl, rfl⟩ ?_
    refine Wq.aload_n (t := 0) (r := r) (j := 0) dX1_goOn_57 rfl ?_
    refine Wq.dup dX1_goOn_58 rfl ?_
    refine Wq.getf (v := pI ((setI m 0 r 0 4 ((m.1 r 0 0 4) + x1)).1 r 0 0 0)) dX1_goOn_59 fl_X1_9 ⟨rfl, rfl, by decide⟩ rfl ?_
    refine Wq.iconst (v := 1) dX1_goOn_62 (by decide) ?_
    refine Wq.iadd dX1_goOn_63 ?_
    refine Wq.putI dX1_goOn_64 fw_X1_9 ⟨rfl, rfl, by decide⟩ ⟨rfl, by decide, by decide⟩ ⟨rfl, rfl⟩ ?_
    refine Wq.aload_n (t := 0) (r := r) (j := 0) dX1_goOn_67 rfl ?_
    refine Wq.getf (v := pO 2 r 0) dX1_goOn_68 fl_X1_34 ⟨rfl, rfl, by decide⟩ rfl ?_
    refine Wq.bipush (v := 16) dX1_goOn_71 (by decide) ?_
    refine Wq.aload_n (t := 0) (r := r) (j := 0) dX1_goOn_73 rfl ?_
    refine Wq.getf (v := pO 2 r 0) dX1_goOn_74 fl_X1_34 ⟨rfl, rfl, by decide⟩ rfl ?_
    refine Wq.iconst (v := 0) dX1_goOn_77 (by decide) ?_
    refine Wq.aload_n (t := 0) (r := r) (j := 0) dX1_goOn_78 rfl ?_
    refine Wq.getf (v := pO 2 r 0) dX1_goOn_79 fl_X1_34 ⟨rfl, rfl, by decide⟩ rfl ?_
    refine Wq.alen (v := 160) dX1_goOn_82 rfl (by decide) rfl ?_
    refine Wq.bipush (v := 16) dX1_goOn_83 (by decide) ?_
    refine Wq.isub dX1_goOn_85 ?_
    refine Wq.copy dX1_goOn_86 ml_X1_52 acw rfl rfl (by decide) (by decide) (by decide) (by decide) (by decide) (Nat.le_of_ble_eq_true rfl) ?_
    refine Wq.iconst (v := 0) dX1_goOn_89 (by decide) ?_
    refine Wq.istore_n (ls2 := [some (pO 0 r 0), some (pI x1), some (pI 0)]) dX1_goOn_90 (by decide) rfl ?_
    exact h
  · replace h := h.2 q1
    refine Wq.aload_n (t := 0) (r := r) (j := 0) dX1_goOn_10 rfl ?_
    refine Wq.aload_n (t := 0) (r := r) (j := 0) dX1_goOn_11 rfl ?_
    refine Wq.getf (v := pO 2 r 0) dX1_goOn_12 fl_X1_34 ⟨rfl, rfl, by decide⟩ rfl ?_
    refine Wq.iload_n (x := x2) dX1_goOn_15 rfl ?_
    refine Wq.iald dX1_goOn_16 rfl h.1 ?_
    replace h := h.2
    refine Wq.callVI (As := [pI (m.1 r 2 0 (ix x2))]) dX1_goOn_17 fX1_hasPupil ml_X1_110 rfl (by decide) rfl (Nat.le_of_ble_eq_true rfl) (Nat.le_of_ble_eq_true rfl) (suX1_hasPupil trivial) (fun x3 m9 e9 => ?_)
    obtain ⟨rfl, rfl⟩ := e9
    refine Wq.ifeq (tgt := 41) dX1_goOn_20 (by decide) (fun q2 => ?_) (fun q2 => ?_)
    · replace h := h.1 (bI_0 q2)
      refine Wq.iinc (x := x2) (ls2 := [some (pO 0 r 0), some (pI x1), some (pI (x2 + 1))]) dX1_goOn_41 rfl (by decide) rfl ?_
      refine Wq.goto (tgt := 4) dX1_goOn_44 (by decide) ?_
      exact h
    · replace h := h.2 (bI_1 q2)
      refine Wq.aload_n (t := 0) (r := r) (j := 0) dX1_goOn_23 rfl ?_
      refine Wq.getf (v := pO 7 r 0) dX1_goOn_24 fl_X1_39 ⟨rfl, rfl, by decide⟩ rfl ?_
      refine Wq.aload_n (t := 0) (r := r) (j := 0) dX1_goOn_27 rfl ?_
      refine Wq.getf (v := pO 2 r 0) dX1_goOn_28 fl_X1_34 ⟨rfl, rfl, by decide⟩ rfl ?_
      refine Wq.iload_n (x := x2) dX1_goOn_31 rfl ?_
      refine Wq.iald dX1_goOn_32 rfl h.1 ?_
      replace h := h.2
      refine Wq.aaldP dX1_goOn_33 h.1 ?_
      replace h := h.2
      refine Wq.iconst (v := 0) dX1_goOn_34 (by decide) ?_
      refine Wq.putI dX1_goOn_35 fw_X1_83 ⟨rfl, rfl, by decide⟩ ⟨rfl, by decide, by decide⟩ ⟨rfl, rfl⟩ ?_
      refine Wq.iinc (x := x1) (ls2 := [some (pO 0 r 0), some (pI (x1 + 1)), some (pI x2)]) dX1_goOn_38 rfl (by decide) rfl ?_
      refine Wq.iinc (x := x2) (ls2 := [some (pO 0 r 0), some (pI (x1 + 1)), some (pI (x2 + 1))]) dX1_goOn_41 rfl (by decide) rfl ?_
      refine Wq.goto (tgt := 4) dX1_goOn_44 (by decide) ?_
      exact h
set_option maxHeartbeats 4000000 in
set_option maxRecDepth 20000 in
theorem sgX1_goOn_91 {g : GG} {d : Nat} {c n : Nat} {m : PM} {Q : Ou → PM → Nat → Nat → Prop} {r : Nat} {x1 : Int32} {x2 : Int32} (h : (((m.1 r 0 0 1) ≤ x2 → Wp g (d + 2) MX1_giveSlotsOut 0 [some (pO 0 r 0)] [] m (cV fun m3 => Q (.inl (some (pI x1))) m3 c n)) ∧ (¬ (m.1 r 0 0 1) ≤ x2 → Wp g (d + 2) MX1_freeSlotsOf 0 [some (pO 0 r 0), some (pI x2), some (pI 9)] [] m (cV fun m5 => Wq g (d + 3) MX1_goOn c n 91 [some (pO 0 r 0), some (pI x1), some (pI (x2 + 1))] [] m5 Q)))) : Wq g (d + 3) MX1_goOn c n 91 [some (pO 0 r 0), some (pI x1), some (pI x2)] [] m Q := by
  refine Wq.iload_n (x := x2) dX1_goOn_91 rfl ?_
  refine Wq.aload_n (t := 0) (r := r) (j := 0) dX1_goOn_92 rfl ?_
  refine Wq.getf (v := pI (m.1 r 0 0 1)) dX1_goOn_93 fl_X1_15 ⟨rfl, rfl, by decide⟩ rfl ?_
  refine Wq.icmpge (tgt := 112) dX1_goOn_96 (by decide) (fun q1 => ?_) (fun q1 => ?_)
  · replace h := h.1 q1
    refine Wq.aload_n (t := 0) (r := r) (j := 0) dX1_goOn_112 rfl ?_
    refine Wq.callVV (As := []) dX1_goOn_113 fX1_giveSlotsOut ml_X1_77 rfl (by decide) rfl (Nat.le_of_ble_eq_true rfl) (Nat.le_of_ble_eq_true rfl) h (fun m3 h => ?_)
    refine Wq.iload_n (x := x1) dX1_goOn_116 rfl ?_
    exact Wq.iret dX1_goOn_117 (⟨_, rfl, rfl⟩) h
  · replace h := h.2 q1
    refine Wq.aload_n (t := 0) (r := r) (j := 0) dX1_goOn_99 rfl ?_
    refine Wq.iload_n (x := x2) dX1_goOn_100 rfl ?_
    refine Wq.bipush (v := 9) dX1_goOn_101 (by decide) ?_
    refine Wq.callVV (As := [pI x2, pI 9]) dX1_goOn_103 fX1_freeSlotsOf ml_X1_73 rfl (by decide) rfl (Nat.le_of_ble_eq_true rfl) (Nat.le_of_ble_eq_true rfl) h (fun m5 h => ?_)
    refine Wq.iinc (x := x2) (ls2 := [some (pO 0 r 0), some (pI x1), some (pI (x2 + 1))]) dX1_goOn_106 rfl (by decide) rfl ?_
    refine Wq.goto (tgt := 91) dX1_goOn_109 (by decide) ?_
    exact h
set_option maxHeartbeats 4000000 in
set_option maxRecDepth 20000 in
theorem sgX1_mostWithSlotsOf {g : GG} {d : Nat} {c n : Nat} {m : PM} {Q : Ou → PM → Nat → Nat → Prop} {r : Nat} {x1 : Int32} (h : Wq g (d + 3) MX1_mostWithSlotsOf c n 5 [some (pO 0 r 0), some (pI x1), some (pI 12), some (pI 0), none] [] m Q) : Wq g (d + 3) MX1_mostWithSlotsOf c n 0 [some (pO 0 r 0), some (pI x1)] [] m Q := by
  refine Wq.few (ls' := [some (pO 0 r 0), some (pI x1), none, none, none]) ⟨rfl, ⟨rfl, trivial⟩⟩ ?_
  refine Wq.bipush (v := 12) dX1_mostWithSlotsOf_0 (by decide) ?_
  refine Wq.istore_n (ls2 := [some (pO 0 r 0), some (pI x1), some (pI 12), none, none]) dX1_mostWithSlotsOf_2 (by decide) rfl ?_
  refine Wq.iconst (v := 0) dX1_mostWithSlotsOf_3 (by decide) ?_
  refine Wq.istore_n (ls2 := [some (pO 0 r 0), some (pI x1), some (pI 12), some (pI 0), none]) dX1_mostWithSlotsOf_4 (by decide) rfl ?_
  exact h
set_option maxHeartbeats 4000000 in
set_option maxRecDepth 20000 in
theorem sgX1_mostWithSlotsOf_5 {g : GG} {d : Nat} {c n : Nat} {m : PM} {Q : Ou → PM → Nat → Nat → Prop} {r : Nat} {x1 : Int32} {x2 : Int32} {x3 : Int32} (h : ((16 ≤ x3 → Q (.inl (some (pI x2))) m c n) ∧ (¬ 16 ≤ x3 → Wp g (d + 2) MX1_freeSlotsOfGroup 0 [some (pO 0 r 0), some (pI x3), some (pI x1)] [] m (cI fun r2 m3 => Wp g (d + 2) MX1_pupilsNotKeptTo 0 [some (pO 0 r 0), some (pI x3), some (pI x1)] [] m3 (cI fun r4 m5 => Wq g (d + 3) MX1_mostWithSlotsOf c n 5 [some (pO 0 r 0), some (pI x1), some (pI (if (r2 + r4) < x2 then (r2 + r4) else x2)), some (pI (x3 + 1)), none] [] m5 Q))))) : Wq g (d + 3) MX1_mostWithSlotsOf c n 5 [some (pO 0 r 0), some (pI x1), some (pI x2), some (pI x3), none] [] m Q := by
  refine Wq.iload_n (x := x3) dX1_mostWithSlotsOf_5 rfl ?_
  refine Wq.bipush (v := 16) dX1_mostWithSlotsOf_6 (by decide) ?_
  refine Wq.icmpge (tgt := 39) dX1_mostWithSlotsOf_8 (by decide) (fun q1 => ?_) (fun q1 => ?_)
  · replace h := h.1 q1
    refine Wq.iload_n (x := x2) dX1_mostWithSlotsOf_39 rfl ?_
    exact Wq.iret dX1_mostWithSlotsOf_40 (⟨_, rfl, rfl⟩) h
  · replace h := h.2 q1
    refine Wq.aload_n (t := 0) (r := r) (j := 0) dX1_mostWithSlotsOf_11 rfl ?_
    refine Wq.iload_n (x := x3) dX1_mostWithSlotsOf_12 rfl ?_
    refine Wq.iload_n (x := x1) dX1_mostWithSlotsOf_13 rfl ?_
    refine Wq.callVI (As := [pI x3, pI x1]) dX1_mostWithSlotsOf_14 fX1_freeSlotsOfGroup ml_X1_169 rfl (by decide) rfl (Nat.le_of_ble_eq_true rfl) (Nat.le_of_ble_eq_true rfl) h (fun r2 m3 h => ?_)
    refine Wq.aload_n (t := 0) (r := r) (j := 0) dX1_mostWithSlotsOf_17 rfl ?_
    refine Wq.iload_n (x := x3) dX1_mostWithSlotsOf_18 rfl ?_
    refine Wq.iload_n (x := x1) dX1_mostWithSlotsOf_19 rfl ?_
    refine Wq.callVI (As := [pI x3, pI x1]) dX1_mostWithSlotsOf_20 fX1_pupilsNotKeptTo ml_X1_172 rfl (by decide) rfl (Nat.le_of_ble_eq_true rfl) (Nat.le_of_ble_eq_true rfl) h (fun r4 m5 h => ?_)
    refine Wq.iadd dX1_mostWithSlotsOf_23 ?_
    refine Wq.istore (ls2 := [some (pO 0 r 0), some (pI x1), some (pI x2), some (pI x3), some (pI (r2 + r4))]) dX1_mostWithSlotsOf_24 (by decide) rfl ?_
    refine Wq.iload_n (x := x2) dX1_mostWithSlotsOf_26 rfl ?_
    refine Wq.iload (x := (r2 + r4)) dX1_mostWithSlotsOf_27 rfl ?_
    refine Wq.mmin dX1_mostWithSlotsOf_29 ml_X1_141 mmw (Nat.le_of_ble_eq_true rfl) ?_
    refine Wq.istore_n (ls2 := [some (pO 0 r 0), some (pI x1), some (pI (if (r2 + r4) < x2 then (r2 + r4) else x2)), some (pI x3), some (pI (r2 + r4))]) dX1_mostWithSlotsOf_32 (by decide) rfl ?_
    refine Wq.iinc (x := x3) (ls2 := [some (pO 0 r 0), some (pI x1), some (pI (if (r2 + r4) < x2 then (r2 + r4) else x2)), some (pI (x3 + 1)), some (pI (r2 + r4))]) dX1_mostWithSlotsOf_33 rfl (by decide) rfl ?_
    refine Wq.goto (tgt := 5) dX1_mostWithSlotsOf_36 (by decide) ?_
    refine Wq.few (ls' := [some (pO 0 r 0), some (pI x1), some (pI (if (r2 + r4) < x2 then (r2 + r4) else x2)), some (pI (x3 + 1)), none]) ⟨rfl, ⟨rfl, ⟨rfl, ⟨rfl, trivial⟩⟩⟩⟩ ?_
    exact h
