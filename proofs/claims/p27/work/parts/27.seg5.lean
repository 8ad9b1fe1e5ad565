/-! SEGMENTS of the law and of its own methods, with their facts (laid by wip/p27/gen/gen.py) -/
abbrev ML_cell : MD := (RL, cL_cell, 2, (some .int), [])
theorem lc_L_7 : Cond.constant RL 7 2147483647 ∈ gTbl := gT 453 (by decide +kernel) (by decide +kernel)
abbrev ML_low : MD := (RL, cL_low, 2, (some .int), [])
abbrev ML_areExaminersSo : MD := (RL, cL_areExaminersSo, 10, (some .boolean), [])
theorem fX4_count : MFv yX4_count MX4_count 1 := ⟨rfl, ⟨by decide, rfl⟩, gT 388 (by decide +kernel) (by decide +kernel), gT 4 (by decide +kernel) (by decide +kernel), by decide +kernel, by decide, gT 386 (by decide +kernel) (by decide +kernel), gT 387 (by decide +kernel) (by decide +kernel)⟩
theorem ml_L_8 : Cond.methodLink RL 8 yX4_count ∈ gTbl := gT 385 (by decide +kernel) (by decide +kernel)
theorem fX4_slot : MFv yX4_slot MX4_slot 3 := ⟨rfl, ⟨by decide, rfl⟩, gT 545 (by decide +kernel) (by decide +kernel), gT 4 (by decide +kernel) (by decide +kernel), by decide +kernel, by decide, gT 543 (by decide +kernel) (by decide +kernel), gT 544 (by decide +kernel) (by decide +kernel)⟩
theorem ml_L_49 : Cond.methodLink RL 49 yX4_slot ∈ gTbl := gT 542 (by decide +kernel) (by decide +kernel)
theorem fX4_examiner : MFv yX4_examiner MX4_examiner 2 := ⟨rfl, ⟨by decide, rfl⟩, gT 554 (by decide +kernel) (by decide +kernel), gT 4 (by decide +kernel) (by decide +kernel), by decide +kernel, by decide, gT 552 (by decide +kernel) (by decide +kernel), gT 553 (by decide +kernel) (by decide +kernel)⟩
theorem ml_L_53 : Cond.methodLink RL 53 yX4_examiner ∈ gTbl := gT 551 (by decide +kernel) (by decide +kernel)
abbrev ML_arePupilsSo : MD := (RL, cL_arePupilsSo, 10, (some .boolean), [])
theorem fX4_pupil : MFv yX4_pupil MX4_pupil 2 := ⟨rfl, ⟨by decide, rfl⟩, gT 335 (by decide +kernel) (by decide +kernel), gT 4 (by decide +kernel) (by decide +kernel), by decide +kernel, by decide, gT 333 (by decide +kernel) (by decide +kernel), gT 334 (by decide +kernel) (by decide +kernel)⟩
theorem ml_L_20 : Cond.methodLink RL 20 yX4_pupil ∈ gTbl := gT 332 (by decide +kernel) (by decide +kernel)
abbrev ML_couldSo : MD := (RL, cL_couldSo, 5, (some .boolean), [])
theorem fX4_couldHave : MFv yX4_couldHave MX4_couldHave 1 := ⟨rfl, ⟨by decide, rfl⟩, gT 594 (by decide +kernel) (by decide +kernel), gT 4 (by decide +kernel) (by decide +kernel), by decide +kernel, by decide, gT 592 (by decide +kernel) (by decide +kernel), gT 593 (by decide +kernel) (by decide +kernel)⟩
theorem ml_L_68 : Cond.methodLink RL 68 yX4_couldHave ∈ gTbl := gT 591 (by decide +kernel) (by decide +kernel)
abbrev ML_does : MD := (RL, cL_does, 8, (some .int), [])
theorem fL_low : MFs yL_low ML_low 2 := ⟨rfl, ⟨by decide, rfl⟩, gT 452 (by decide +kernel) (by decide +kernel), gT 3 (by decide +kernel) (by decide +kernel), by decide +kernel, by decide, gT 451 (by decide +kernel) (by decide +kernel)⟩
theorem ml_L_14 : Cond.methodLink RL 14 yL_low ∈ gTbl := gT 450 (by decide +kernel) (by decide +kernel)
theorem fX4_addPupil : MFv yX4_addPupil MX4_addPupil 0 := ⟨rfl, ⟨by decide, rfl⟩, gT 326 (by decide +kernel) (by decide +kernel), gT 4 (by decide +kernel) (by decide +kernel), by decide +kernel, by decide, gT 324 (by decide +kernel) (by decide +kernel), gT 325 (by decide +kernel) (by decide +kernel)⟩
theorem ml_L_23 : Cond.methodLink RL 23 yX4_addPupil ∈ gTbl := gT 323 (by decide +kernel) (by decide +kernel)
theorem fX4_addExaminer : MFv yX4_addExaminer MX4_addExaminer 0 := ⟨rfl, ⟨by decide, rfl⟩, gT 188 (by decide +kernel) (by decide +kernel), gT 4 (by decide +kernel) (by decide +kernel), by decide +kernel, by decide, gT 186 (by decide +kernel) (by decide +kernel), gT 187 (by decide +kernel) (by decide +kernel)⟩
theorem ml_L_27 : Cond.methodLink RL 27 yX4_addExaminer ∈ gTbl := gT 185 (by decide +kernel) (by decide +kernel)
theorem fX4_ask : MFv yX4_ask MX4_ask 1 := ⟨rfl, ⟨by decide, rfl⟩, gT 460 (by decide +kernel) (by decide +kernel), gT 4 (by decide +kernel) (by decide +kernel), by decide +kernel, by decide, gT 458 (by decide +kernel) (by decide +kernel), gT 459 (by decide +kernel) (by decide +kernel)⟩
theorem ml_L_30 : Cond.methodLink RL 30 yX4_ask ∈ gTbl := gT 457 (by decide +kernel) (by decide +kernel)
theorem fX4_quit : MFv yX4_quit MX4_quit 1 := ⟨rfl, ⟨by decide, rfl⟩, gT 477 (by decide +kernel) (by decide +kernel), gT 4 (by decide +kernel) (by decide +kernel), by decide +kernel, by decide, gT 475 (by decide +kernel) (by decide +kernel), gT 476 (by decide +kernel) (by decide +kernel)⟩
theorem ml_L_33 : Cond.methodLink RL 33 yX4_quit ∈ gTbl := gT 474 (by decide +kernel) (by decide +kernel)
theorem fX4_cancel : MFv yX4_cancel MX4_cancel 2 := ⟨rfl, ⟨by decide, rfl⟩, gT 490 (by decide +kernel) (by decide +kernel), gT 4 (by decide +kernel) (by decide +kernel), by decide +kernel, by decide, gT 488 (by decide +kernel) (by decide +kernel), gT 489 (by decide +kernel) (by decide +kernel)⟩
theorem ml_L_36 : Cond.methodLink RL 36 yX4_cancel ∈ gTbl := gT 487 (by decide +kernel) (by decide +kernel)
theorem fX4_test : MFv yX4_test MX4_test 2 := ⟨rfl, ⟨by decide, rfl⟩, gT 500 (by decide +kernel) (by decide +kernel), gT 4 (by decide +kernel) (by decide +kernel), by decide +kernel, by decide, gT 498 (by decide +kernel) (by decide +kernel), gT 499 (by decide +kernel) (by decide +kernel)⟩
theorem ml_L_39 : Cond.methodLink RL 39 yX4_test ∈ gTbl := gT 497 (by decide +kernel) (by decide +kernel)
theorem fX4_set : MFv yX4_set MX4_set 2 := ⟨rfl, ⟨by decide, rfl⟩, gT 517 (by decide +kernel) (by decide +kernel), gT 4 (by decide +kernel) (by decide +kernel), by decide +kernel, by decide, gT 515 (by decide +kernel) (by decide +kernel), gT 516 (by decide +kernel) (by decide +kernel)⟩
theorem ml_L_43 : Cond.methodLink RL 43 yX4_set ∈ gTbl := gT 514 (by decide +kernel) (by decide +kernel)
theorem fX4_next : MFv yX4_next MX4_next 0 := ⟨rfl, ⟨by decide, rfl⟩, gT 529 (by decide +kernel) (by decide +kernel), gT 4 (by decide +kernel) (by decide +kernel), by decide +kernel, by decide, gT 527 (by decide +kernel) (by decide +kernel), gT 528 (by decide +kernel) (by decide +kernel)⟩
theorem ml_L_46 : Cond.methodLink RL 46 yX4_next ∈ gTbl := gT 526 (by decide +kernel) (by decide +kernel)
abbrev ML_isAskSo : MD := (RL, cL_isAskSo, 7, (some .boolean), [])
theorem fX4_setting : MFv yX4_setting MX4_setting 1 := ⟨rfl, ⟨by decide, rfl⟩, gT 581 (by decide +kernel) (by decide +kernel), gT 4 (by decide +kernel) (by decide +kernel), by decide +kernel, by decide, gT 579 (by decide +kernel) (by decide +kernel), gT 580 (by decide +kernel) (by decide +kernel)⟩
theorem ml_L_62 : Cond.methodLink RL 62 yX4_setting ∈ gTbl := gT 578 (by decide +kernel) (by decide +kernel)
theorem fX4_earliest : MFv yX4_earliest MX4_earliest 2 := ⟨rfl, ⟨by decide, rfl⟩, gT 585 (by decide +kernel) (by decide +kernel), gT 4 (by decide +kernel) (by decide +kernel), by decide +kernel, by decide, gT 583 (by decide +kernel) (by decide +kernel), gT 584 (by decide +kernel) (by decide +kernel)⟩
theorem ml_L_65 : Cond.methodLink RL 65 yX4_earliest ∈ gTbl := gT 582 (by decide +kernel) (by decide +kernel)
theorem fX4_undo : MFv yX4_undo MX4_undo 0 := ⟨rfl, ⟨by decide, rfl⟩, gT 573 (by decide +kernel) (by decide +kernel), gT 4 (by decide +kernel) (by decide +kernel), by decide +kernel, by decide, gT 571 (by decide +kernel) (by decide +kernel), gT 572 (by decide +kernel) (by decide +kernel)⟩
theorem ml_L_59 : Cond.methodLink RL 59 yX4_undo ∈ gTbl := gT 570 (by decide +kernel) (by decide +kernel)
abbrev ML_isCancelSo : MD := (RL, cL_isCancelSo, 12, (some .boolean), [])
theorem fX4_ifCancelled : MFv yX4_ifCancelled MX4_ifCancelled 3 := ⟨rfl, ⟨by decide, rfl⟩, gT 566 (by decide +kernel) (by decide +kernel), gT 4 (by decide +kernel) (by decide +kernel), by decide +kernel, by decide, gT 564 (by decide +kernel) (by decide +kernel), gT 565 (by decide +kernel) (by decide +kernel)⟩
theorem ml_L_56 : Cond.methodLink RL 56 yX4_ifCancelled ∈ gTbl := gT 563 (by decide +kernel) (by decide +kernel)
abbrev ML_law : MD := (RL, cL_law, 11, (some .boolean), [])
theorem fL_cell : MFs yL_cell ML_cell 2 := ⟨rfl, ⟨by decide, rfl⟩, gT 449 (by decide +kernel) (by decide +kernel), gT 3 (by decide +kernel) (by decide +kernel), by decide +kernel, by decide, gT 448 (by decide +kernel) (by decide +kernel)⟩
theorem ml_L_72 : Cond.methodLink RL 72 yL_cell ∈ gTbl := gT 447 (by decide +kernel) (by decide +kernel)
theorem fX4_ifTested : MFv yX4_ifTested MX4_ifTested 2 := ⟨rfl, ⟨by decide, rfl⟩, gT 433 (by decide +kernel) (by decide +kernel), gT 4 (by decide +kernel) (by decide +kernel), by decide +kernel, by decide, gT 431 (by decide +kernel) (by decide +kernel), gT 432 (by decide +kernel) (by decide +kernel)⟩
theorem ml_L_76 : Cond.methodLink RL 76 yX4_ifTested ∈ gTbl := gT 430 (by decide +kernel) (by decide +kernel)
theorem fL_does : MFs yL_does ML_does 2 := ⟨rfl, ⟨by decide, rfl⟩, gT 456 (by decide +kernel) (by decide +kernel), gT 3 (by decide +kernel) (by decide +kernel), by decide +kernel, by decide, gT 455 (by decide +kernel) (by decide +kernel)⟩
theorem ml_L_79 : Cond.methodLink RL 79 yL_does ∈ gTbl := gT 454 (by decide +kernel) (by decide +kernel)
theorem fL_arePupilsSo : MFs yL_arePupilsSo ML_arePupilsSo 1 := ⟨rfl, ⟨by decide, rfl⟩, gT 541 (by decide +kernel) (by decide +kernel), gT 3 (by decide +kernel) (by decide +kernel), by decide +kernel, by decide, gT 540 (by decide +kernel) (by decide +kernel)⟩
theorem ml_L_83 : Cond.methodLink RL 83 yL_arePupilsSo ∈ gTbl := gT 539 (by decide +kernel) (by decide +kernel)
theorem fL_areExaminersSo : MFs yL_areExaminersSo ML_areExaminersSo 1 := ⟨rfl, ⟨by decide, rfl⟩, gT 550 (by decide +kernel) (by decide +kernel), gT 3 (by decide +kernel) (by decide +kernel), by decide +kernel, by decide, gT 549 (by decide +kernel) (by decide +kernel)⟩
theorem ml_L_87 : Cond.methodLink RL 87 yL_areExaminersSo ∈ gTbl := gT 548 (by decide +kernel) (by decide +kernel)
theorem fL_isCancelSo : MFs yL_isCancelSo ML_isCancelSo 3 := ⟨rfl, ⟨by decide, rfl⟩, gT 562 (by decide +kernel) (by decide +kernel), gT 3 (by decide +kernel) (by decide +kernel), by decide +kernel, by decide, gT 561 (by decide +kernel) (by decide +kernel)⟩
theorem ml_L_90 : Cond.methodLink RL 90 yL_isCancelSo ∈ gTbl := gT 560 (by decide +kernel) (by decide +kernel)
theorem fL_isAskSo : MFs yL_isAskSo ML_isAskSo 2 := ⟨rfl, ⟨by decide, rfl⟩, gT 577 (by decide +kernel) (by decide +kernel), gT 3 (by decide +kernel) (by decide +kernel), by decide +kernel, by decide, gT 576 (by decide +kernel) (by decide +kernel)⟩
theorem ml_L_94 : Cond.methodLink RL 94 yL_isAskSo ∈ gTbl := gT 575 (by decide +kernel) (by decide +kernel)
theorem fL_couldSo : MFs yL_couldSo ML_couldSo 2 := ⟨rfl, ⟨by decide, rfl⟩, gT 590 (by decide +kernel) (by decide +kernel), gT 3 (by decide +kernel) (by decide +kernel), by decide +kernel, by decide, gT 589 (by decide +kernel) (by decide +kernel)⟩
theorem ml_L_98 : Cond.methodLink RL 98 yL_couldSo ∈ gTbl := gT 588 (by decide +kernel) (by decide +kernel)
set_option maxHeartbeats 4000000 in
set_option maxRecDepth 20000 in
theorem suL_cell {g : GG} {d : Nat} {m : PM} {x1 : Int32} (h : (¬ (nI (gL g)) ≤ x1 → (vp_in x1 (gL g) ∧ True))) : Wp g d ML_cell 0 [some (pO 41 10 0), some (pI x1)] [] m (cI fun x m' => ((if (nI (gL g)) ≤ x1 then ((7919 * (x1 + 3)) * (x1 + 11)) else (gx g (ix x1))) : Int32) = x ∧ m = m') := by
  refine Wq.few (ls' := [some (pO 41 10 0), some (pI x1)]) ⟨rfl, ⟨rfl, trivial⟩⟩ ?_
  refine Wq.iload_n (x := x1) dL_cell_0 rfl ?_
  refine Wq.aload_n (t := 41) (r := 10) (j := 0) dL_cell_1 rfl ?_
  refine Wq.lenS dL_cell_2 ?_
  refine Wq.icmpge (tgt := 12) dL_cell_3 (by decide) (fun q1 => ?_) (fun q1 => ?_)
  · refine Wq.sipush (v := 7919) dL_cell_12 (by decide) ?_
    refine Wq.iload_n (x := x1) dL_cell_15 rfl ?_
    refine Wq.iconst (v := 3) dL_cell_16 (by decide) ?_
    refine Wq.iadd dL_cell_17 ?_
    refine Wq.imul dL_cell_18 ?_
    refine Wq.iload_n (x := x1) dL_cell_19 rfl ?_
    refine Wq.bipush (v := 11) dL_cell_20 (by decide) ?_
    refine Wq.iadd dL_cell_22 ?_
    refine Wq.imul dL_cell_23 ?_
    exact Wq.iret dL_cell_24 (⟨_, rfl, rfl⟩) ⟨rfl, rfl, (by rw [if_pos q1]), rfl⟩
  · replace h := h q1
    refine Wq.aload_n (t := 41) (r := 10) (j := 0) dL_cell_6 rfl ?_
    refine Wq.iload_n (x := x1) dL_cell_7 rfl ?_
    refine Wq.ialdS dL_cell_8 h.1 ?_
    replace h := h.2
    refine Wq.goto (tgt := 24) dL_cell_9 (by decide) ?_
    exact Wq.iret dL_cell_24 (⟨_, rfl, rfl⟩) ⟨rfl, rfl, (by rw [if_neg q1]), rfl⟩
set_option maxHeartbeats 4000000 in
set_option maxRecDepth 20000 in
theorem suL_low {g : GG} {d : Nat} {m : PM} {x0 : Int32} {x1 : Int32} (h : (¬ x1 = 0 ∧ True)) : Wp g d ML_low 0 [some (pI x0), some (pI x1)] [] m (cI fun x m' => (irm (x0 &&& 2147483647) x1) = x ∧ m = m') := by
  refine Wq.few (ls' := [some (pI x0), some (pI x1)]) ⟨rfl, ⟨rfl, trivial⟩⟩ ?_
  refine Wq.iload_n (x := x0) dL_low_0 rfl ?_
  refine Wq.ldc dL_low_1 lc_L_7 ?_
  refine Wq.iand dL_low_3 ?_
  refine Wq.iload_n (x := x1) dL_low_4 rfl ?_
  refine Wq.irem dL_low_5 h.1 ?_
  replace h := h.2
  exact Wq.iret dL_low_6 (⟨_, rfl, rfl⟩) ⟨rfl, rfl, rfl, rfl⟩
set_option maxHeartbeats 4000000 in
set_option maxRecDepth 20000 in
theorem sgL_areExaminersSo {g : GG} {d : Nat} {c n : Nat} {m : PM} {Q : Ou → PM → Nat → Nat → Prop}  (h : Wq g (d + 7) ML_areExaminersSo c n 12 [some (pO 10 8 0), some (pI 0), some (pI 0), some (pI 0), some (pI 0), some (pI 0), none, none, none, none] [] m Q) : Wq g (d + 7) ML_areExaminersSo c n 0 [some (pO 10 8 0)] [] m Q := by
  refine Wq.few (ls' := [some (pO 10 8 0), none, none, none, none, none, none, none, none, none]) ⟨rfl, trivial⟩ ?_
  refine Wq.iconst (v := 0) dL_areExaminersSo_0 (by decide) ?_
  refine Wq.istore_n (ls2 := [some (pO 10 8 0), some (pI 0), none, none, none, none, none, none, none, none]) dL_areExaminersSo_1 (by decide) rfl ?_
  refine Wq.iconst (v := 0) dL_areExaminersSo_2 (by decide) ?_
  refine Wq.istore_n (ls2 := [some (pO 10 8 0), some (pI 0), some (pI 0), none, none, none, none, none, none, none]) dL_areExaminersSo_3 (by decide) rfl ?_
  refine Wq.iconst (v := 0) dL_areExaminersSo_4 (by decide) ?_
  refine Wq.istore_n (ls2 := [some (pO 10 8 0), some (pI 0), some (pI 0), some (pI 0), none, none, none, none, none, none]) dL_areExaminersSo_5 (by decide) rfl ?_
  refine Wq.iconst (v := 0) dL_areExaminersSo_6 (by decide) ?_
  refine Wq.istore (ls2 := [some (pO 10 8 0), some (pI 0), some (pI 0), some (pI 0), some (pI 0), none, none, none, none, none]) dL_areExaminersSo_7 (by decide) rfl ?_
  refine Wq.iconst (v := 0) dL_areExaminersSo_9 (by decide) ?_
  refine Wq.istore (ls2 := [some (pO 10 8 0), some (pI 0), some (pI 0), some (pI 0), some (pI 0), some (pI 0), none, none, none, none]) dL_areExaminersSo_10 (by decide) rfl ?_
  exact h
set_option maxHeartbeats 4000000 in
set_option maxRecDepth 20000 in
theorem sgL_areExaminersSo_12 {g : GG} {d : Nat} {c n : Nat} {m : PM} {Q : Ou → PM → Nat → Nat → Prop} {x1 : Int32} {x2 : Int32} {x3 : Int32} {x4 : Int32} {x5 : Int32} (h : Wp g (d + 6) MX4_count 0 [some (pO 10 8 0), some (pI 1)] [] m (cI fun r1 m2 => ((r1 ≤ x5 → Wp g (d + 6) MX4_count 0 [some (pO 10 8 0), some (pI 7)] [] m2 (cI fun r4 m5 => ((¬ x1 = r4 → Q (.inl (some (pI 0))) m5 c n) ∧ (x1 = r4 → Wp g (d + 6) MX4_count 0 [some (pO 10 8 0), some (pI 8)] [] m5 (cI fun r7 m8 => ((¬ x2 = r7 → Q (.inl (some (pI 0))) m8 c n) ∧ (x2 = r7 → Wp g (d + 6) MX4_count 0 [some (pO 10 8 0), some (pI 12)] [] m8 (cI fun r10 m11 => ((¬ x3 = r10 → Q (.inl (some (pI 0))) m11 c n) ∧ (x3 = r10 → Wp g (d + 6) MX4_count 0 [some (pO 10 8 0), some (pI 5)] [] m11 (cI fun r13 m14 => ((¬ x4 = r13 → Q (.inl (some (pI 0))) m14 c n) ∧ (x4 = r13 → Q (.inl (some (pI 1))) m14 c n))))))))))))) ∧ (¬ r1 ≤ x5 → Wq g (d + 7) ML_areExaminersSo c n 31 [some (pO 10 8 0), some (pI x1), some (pI x2), some (pI x3), some (pI x4), some (pI x5), some (pI 0), some (pI 0), some (pI 0), none] [] m2 Q)))) : Wq g (d + 7) ML_areExaminersSo c n 12 [some (pO 10 8 0), some (pI x1), some (pI x2), some (pI x3), some (pI x4), some (pI x5), none, none, none, none] [] m Q := by
  refine Wq.iload (x := x5) dL_areExaminersSo_12 rfl ?_
  refine Wq.aload_n (t := 10) (r := 8) (j := 0) dL_areExaminersSo_14 rfl ?_
  refine Wq.iconst (v := 1) dL_areExaminersSo_15 (by decide) ?_
  refine Wq.callVI (As := [pI 1]) dL_areExaminersSo_16 fX4_count ml_L_8 rfl (by decide) rfl (Nat.le_of_ble_eq_true rfl) (Nat.le_of_ble_eq_true rfl) h (fun r1 m2 h => ?_)
  refine Wq.icmpge (tgt := 213) dL_areExaminersSo_19 (by decide) (fun q3 => ?_) (fun q3 => ?_)
  · replace h := h.1 q3
    refine Wq.iload_n (x := x1) dL_areExaminersSo_213 rfl ?_
    refine Wq.aload_n (t := 10) (r := 8) (j := 0) dL_areExaminersSo_214 rfl ?_
    refine Wq.bipush (v := 7) dL_areExaminersSo_215 (by decide) ?_
    refine Wq.callVI (As := [pI 7]) dL_areExaminersSo_217 fX4_count ml_L_8 rfl (by decide) rfl (Nat.le_of_ble_eq_true rfl) (Nat.le_of_ble_eq_true rfl) h (fun r4 m5 h => ?_)
    refine Wq.icmpne (tgt := 257) dL_areExaminersSo_220 (by decide) (fun q6 => ?_) (fun q6 => ?_)
    · replace h := h.1 q6
      refine Wq.iconst (v := 0) dL_areExaminersSo_257 (by decide) ?_
      exact Wq.iret dL_areExaminersSo_258 (⟨_, rfl, by decide⟩) h
    · replace h := h.2 q6
      refine Wq.iload_n (x := x2) dL_areExaminersSo_223 rfl ?_
      refine Wq.aload_n (t := 10) (r := 8) (j := 0) dL_areExaminersSo_224 rfl ?_
      refine Wq.bipush (v := 8) dL_areExaminersSo_225 (by decide) ?_
      refine Wq.callVI (As := [pI 8]) dL_areExaminersSo_227 fX4_count ml_L_8 rfl (by decide) rfl (Nat.le_of_ble_eq_true rfl) (Nat.le_of_ble_eq_true rfl) h (fun r7 m8 h => ?_)
      refine Wq.icmpne (tgt := 257) dL_areExaminersSo_230 (by decide) (fun q9 => ?_) (fun q9 => ?_)
      · replace h := h.1 q9
        refine Wq.iconst (v := 0) dL_areExaminersSo_257 (by decide) ?_
        exact Wq.iret dL_areExaminersSo_258 (⟨_, rfl, by decide⟩) h
      · replace h := h.2 q9
        refine Wq.iload_n (x := x3) dL_areExaminersSo_233 rfl ?_
        refine Wq.aload_n (t := 10) (r := 8) (j := 0) dL_areExaminersSo_234 rfl ?_
        refine Wq.bipush (v := 12) dL_areExaminersSo_235 (by decide) ?_
        refine Wq.callVI (As := [pI 12]) dL_areExaminersSo_237 fX4_count ml_L_8 rfl (by decide) rfl (Nat.le_of_ble_eq_true rfl) (Nat.le_of_ble_eq_true rfl) h (fun r10 m11 h => ?_)
        refine Wq.icmpne (tgt := 257) dL_areExaminersSo_240 (by decide) (fun q12 => ?_) (fun q12 => ?_)
        · replace h := h.1 q12
          refine Wq.iconst (v := 0) dL_areExaminersSo_257 (by decide) ?_
          exact Wq.iret dL_areExaminersSo_258 (⟨_, rfl, by decide⟩) h
        · replace h := h.2 q12
          refine Wq.iload (x := x4) dL_areExaminersSo_243 rfl ?_
          refine Wq.aload_n (t := 10) (r := 8) (j := 0) dL_areExaminersSo_245 rfl ?_
          refine Wq.iconst (v := 5) dL_areExaminersSo_246 (by decide) ?_
          refine Wq.callVI (As := [pI 5]) dL_areExaminersSo_247 fX4_count ml_L_8 rfl (by decide) rfl (Nat.le_of_ble_eq_true rfl) (Nat.le_of_ble_eq_true rfl) h (fun r13 m14 h => ?_)
          refine Wq.icmpne (tgt := 257) dL_areExaminersSo_250 (by decide) (fun q15 => ?_) (fun q15 => ?_)
          · replace h := h.1 q15
            refine Wq.iconst (v := 0) dL_areExaminersSo_257 (by decide) ?_
            exact Wq.iret dL_areExaminersSo_258 (⟨_, rfl, by decide⟩) h
          · replace h := h.2 q15
            refine Wq.iconst (v := 1) dL_areExaminersSo_253 (by decide) ?_
            refine Wq.goto (tgt := 258) dL_areExaminersSo_254 (by decide) ?_
            exact Wq.iret dL_areExaminersSo_258 (⟨_, rfl, by decide⟩) h
  · replace h := h.2 q3
    refine Wq.iconst (v := 0) dL_areExaminersSo_22 (by decide) ?_
    refine Wq.istore (ls2 := [some (pO 10 8 0), some (pI x1), some (pI x2), some (pI x3), some (pI x4), some (pI x5), some (pI 0), none, none, none]) dL_areExaminersSo_23 (by decide) rfl ?_
    refine Wq.iconst (v := 0) dL_areExaminersSo_25 (by decide) ?_
    refine Wq.istore (ls2 := [some (pO 10 8 0), some (pI x1), some (pI x2), some (pI x3), some (pI x4), some (pI x5), some (pI 0), some (pI 0), none, none]) dL_areExaminersSo_26 (by decide) rfl ?_
    refine Wq.iconst (v := 0) dL_areExaminersSo_28 (by decide) ?_
    refine Wq.istore (ls2 := [some (pO 10 8 0), some (pI x1), some (pI x2), some (pI x3), some (pI x4), some (pI x5), some (pI 0), some (pI 0), some (pI 0), none]) dL_areExaminersSo_29 (by decide) rfl ?_
    exact h
set_option maxHeartbeats 4000000 in
set_option maxRecDepth 20000 in
theorem sgL_areExaminersSo_31 {g : GG} {d : Nat} {c n : Nat} {m : PM} {Q : Ou → PM → Nat → Nat → Prop} {x1 : Int32} {x2 : Int32} {x3 : Int32} {x4 : Int32} {x5 : Int32} {x6 : Int32} {x7 : Int32} {x8 : Int32} (h : ((40 ≤ x8 → Wq g (d + 7) ML_areExaminersSo c n 108 [some (pO 10 8 0), some (pI x1), some (pI x2), some (pI x3), some (pI x4), some (pI x5), some (pI x6), some (pI x7), none, none] [] m Q) ∧ (¬ 40 ≤ x8 → Wp g (d + 6) MX4_slot 0 [some (pO 10 8 0), some (pI x5), some (pI (x8 / 4)), some (pI (irm x8 4))] [] m (cI fun r2 m3 => ((¬ r2 = (-2) → Wq g (d + 7) ML_areExaminersSo c n 71 [some (pO 10 8 0), some (pI x1), some (pI x2), some (pI x3), some (pI x4), some (pI x5), some (pI (x6 + 0)), some (pI x7), some (pI x8), some (pI r2)] [] m3 Q) ∧ (r2 = (-2) → Wq g (d + 7) ML_areExaminersSo c n 71 [some (pO 10 8 0), some (pI x1), some (pI x2), some (pI x3), some (pI x4), some (pI x5), some (pI (x6 + 1)), some (pI x7), some (pI x8), some (pI r2)] [] m3 Q)))))) : Wq g (d + 7) ML_areExaminersSo c n 31 [some (pO 10 8 0), some (pI x1), some (pI x2), some (pI x3), some (pI x4), some (pI x5), some (pI x6), some (pI x7), some (pI x8), none] [] m Q := by
  refine Wq.iload (x := x8) dL_areExaminersSo_31 rfl ?_
  refine Wq.bipush (v := 40) dL_areExaminersSo_33 (by decide) ?_
  refine Wq.icmpge (tgt := 108) dL_areExaminersSo_35 (by decide) (fun q1 => ?_) (fun q1 => ?_)
  · replace h := h.1 q1
    refine Wq.few (ls' := [some (pO 10 8 0), some (pI x1), some (pI x2), some (pI x3), some (pI x4), some (pI x5), some (pI x6), some (pI x7), none, none]) ⟨rfl, ⟨rfl, ⟨rfl, ⟨rfl, ⟨rfl, ⟨rfl, ⟨rfl, ⟨rfl, trivial⟩⟩⟩⟩⟩⟩⟩⟩ ?_
    exact h
  · replace h := h.2 q1
    refine Wq.aload_n (t := 10) (r := 8) (j := 0) dL_areExaminersSo_38 rfl ?_
    refine Wq.iload (x := x5) dL_areExaminersSo_39 rfl ?_
    refine Wq.iload (x := x8) dL_areExaminersSo_41 rfl ?_
    refine Wq.iconst (v := 4) dL_areExaminersSo_43 (by decide) ?_
    refine Wq.idiv dL_areExaminersSo_44 (by decide) ?_
    refine Wq.iload (x := x8) dL_areExaminersSo_45 rfl ?_
    refine Wq.iconst (v := 4) dL_areExaminersSo_47 (by decide) ?_
    refine Wq.irem dL_areExaminersSo_48 (by decide) ?_
    refine Wq.callVI (As := [pI x5, pI (x8 / 4), pI (irm x8 4)]) dL_areExaminersSo_49 fX4_slot ml_L_49 rfl (by decide) rfl (Nat.le_of_ble_eq_true rfl) (Nat.le_of_ble_eq_true rfl) h (fun r2 m3 h => ?_)
    refine Wq.istore (ls2 := [some (pO 10 8 0), some (pI x1), some (pI x2), some (pI x3), some (pI x4), some (pI x5), some (pI x6), some (pI x7), some (pI x8), some (pI r2)]) dL_areExaminersSo_52 (by decide) rfl ?_
    refine Wq.iload (x := x6) dL_areExaminersSo_54 rfl ?_
    refine Wq.iload (x := r2) dL_areExaminersSo_56 rfl ?_
    refine Wq.bipush (v := (-2)) dL_areExaminersSo_58 (by decide) ?_
    refine Wq.icmpne (tgt := 67) dL_areExaminersSo_60 (by decide) (fun q4 => ?_) (fun q4 => ?_)
    · replace h := h.1 q4
      refine Wq.iconst (v := 0) dL_areExaminersSo_67 (by decide) ?_
      refine Wq.iadd dL_areExaminersSo_68 ?_
      refine Wq.istore (ls2 := [some (pO 10 8 0), some (pI x1), some (pI x2), some (pI x3), some (pI x4), some (pI x5), some (pI (x6 + 0)), some (pI x7), some (pI x8), some (pI r2)]) dL_areExaminersSo_69 (by decide) rfl ?_
      exact h
    · replace h := h.2 q4
      refine Wq.iconst (v := 1) dL_areExaminersSo_63 (by decide) ?_
      refine Wq.goto (tgt := 68) dL_areExaminersSo_64 (by decide) ?_
      refine Wq.iadd dL_areExaminersSo_68 ?_
      refine Wq.istore (ls2 := [some (pO 10 8 0), some (pI x1), some (pI x2), some (pI x3), some (pI x4), some (pI x5), some (pI (x6 + 1)), some (pI x7), some (pI x8), some (pI r2)]) dL_areExaminersSo_69 (by decide) rfl ?_
      exact h
set_option maxHeartbeats 4000000 in
set_option maxRecDepth 20000 in
theorem sgL_areExaminersSo_71 {g : GG} {d : Nat} {c n : Nat} {m : PM} {Q : Ou → PM → Nat → Nat → Prop} {x1 : Int32} {x2 : Int32} {x3 : Int32} {x4 : Int32} {x5 : Int32} {x6 : Int32} {x7 : Int32} {x8 : Int32} {x9 : Int32} (h : ((¬ x9 = (-1) → Wq g (d + 7) ML_areExaminersSo c n 87 [some (pO 10 8 0), some (pI x1), some (pI x2), some (pI x3), some (pI x4), some (pI x5), some (pI x6), some (pI (x7 + 0)), some (pI x8), some (pI x9)] [] m Q) ∧ (x9 = (-1) → Wq g (d + 7) ML_areExaminersSo c n 87 [some (pO 10 8 0), some (pI x1), some (pI x2), some (pI x3), some (pI x4), some (pI x5), some (pI x6), some (pI (x7 + 1)), some (pI x8), some (pI x9)] [] m Q))) : Wq g (d + 7) ML_areExaminersSo c n 71 [some (pO 10 8 0), some (pI x1), some (pI x2), some (pI x3), some (pI x4), some (pI x5), some (pI x6), some (pI x7), some (pI x8), some (pI x9)] [] m Q := by
  refine Wq.iload (x := x7) dL_areExaminersSo_71 rfl ?_
  refine Wq.iload (x := x9) dL_areExaminersSo_73 rfl ?_
  refine Wq.iconst (v := (-1)) dL_areExaminersSo_75 (by decide) ?_
  refine Wq.icmpne (tgt := 83) dL_areExaminersSo_76 (by decide) (fun q1 => ?_) (fun q1 => ?_)
  · replace h := h.1 q1
    refine Wq.iconst (v := 0) dL_areExaminersSo_83 (by decide) ?_
    refine Wq.iadd dL_areExaminersSo_84 ?_
    refine Wq.istore (ls2 := [some (pO 10 8 0), some (pI x1), some (pI x2), some (pI x3), some (pI x4), some (pI x5), some (pI x6), some (pI (x7 + 0)), some (pI x8), some (pI x9)]) dL_areExaminersSo_85 (by decide) rfl ?_
    exact h
  · replace h := h.2 q1
    refine Wq.iconst (v := 1) dL_areExaminersSo_79 (by decide) ?_
    refine Wq.goto (tgt := 84) dL_areExaminersSo_80 (by decide) ?_
    refine Wq.iadd dL_areExaminersSo_84 ?_
    refine Wq.istore (ls2 := [some (pO 10 8 0), some (pI x1), some (pI x2), some (pI x3), some (pI x4), some (pI x5), some (pI x6), some (pI (x7 + 1)), some (pI x8), some (pI x9)]) dL_areExaminersSo_85 (by decide) rfl ?_
    exact h
set_option maxHeartbeats 4000000 in
set_option maxRecDepth 20000 in
theorem sgL_areExaminersSo_87 {g : GG} {d : Nat} {c n : Nat} {m : PM} {Q : Ou → PM → Nat → Nat → Prop} {x1 : Int32} {x2 : Int32} {x3 : Int32} {x4 : Int32} {x5 : Int32} {x6 : Int32} {x7 : Int32} {x8 : Int32} {x9 : Int32} (h : ((x9 < 0 → Wq g (d + 7) ML_areExaminersSo c n 102 [some (pO 10 8 0), some (pI x1), some (pI x2), some (pI x3), some (pI (x4 + 0)), some (pI x5), some (pI x6), some (pI x7), some (pI x8), none] [] m Q) ∧ (¬ x9 < 0 → Wq g (d + 7) ML_areExaminersSo c n 102 [some (pO 10 8 0), some (pI x1), some (pI x2), some (pI x3), some (pI (x4 + 1)), some (pI x5), some (pI x6), some (pI x7), some (pI x8), none] [] m Q))) : Wq g (d + 7) ML_areExaminersSo c n 87 [some (pO 10 8 0), some (pI x1), some (pI x2), some (pI x3), some (pI x4), some (pI x5), some (pI x6), some (pI x7), some (pI x8), some (pI x9)] [] m Q := by
  refine Wq.iload (x := x4) dL_areExaminersSo_87 rfl ?_
  refine Wq.iload (x := x9) dL_areExaminersSo_89 rfl ?_
  refine Wq.iflt (tgt := 98) dL_areExaminersSo_91 (by decide) (fun q1 => ?_) (fun q1 => ?_)
  · replace h := h.1 q1
    refine Wq.iconst (v := 0) dL_areExaminersSo_98 (by decide) ?_
    refine Wq.iadd dL_areExaminersSo_99 ?_
    refine Wq.istore (ls2 := [some (pO 10 8 0), some (pI x1), some (pI x2), some (pI x3), some (pI (x4 + 0)), some (pI x5), some (pI x6), some (pI x7), some (pI x8), some (pI x9)]) dL_areExaminersSo_100 (by decide) rfl ?_
    refine Wq.few (ls' := [some (pO 10 8 0), some (pI x1), some (pI x2), some (pI x3), some (pI (x4 + 0)), some (pI x5), some (pI x6), some (pI x7), some (pI x8), none]) ⟨rfl, ⟨rfl, ⟨rfl, ⟨rfl, ⟨rfl, ⟨rfl, ⟨rfl, ⟨rfl, ⟨rfl, trivial⟩⟩⟩⟩⟩⟩⟩⟩⟩ ?_
    exact h
  · replace h := h.2 q1
    refine Wq.iconst (v := 1) dL_areExaminersSo_94 (by decide) ?_
    refine Wq.goto (tgt := 99) dL_areExaminersSo_95 (by decide) ?_
    refine Wq.iadd dL_areExaminersSo_99 ?_
    refine Wq.istore (ls2 := [some (pO 10 8 0), some (pI x1), some (pI x2), some (pI x3), some (pI (x4 + 1)), some (pI x5), some (pI x6), some (pI x7), some (pI x8), some (pI x9)]) dL_areExaminersSo_100 (by decide) rfl ?_
    refine Wq.few (ls' := [some (pO 10 8 0), some (pI x1), some (pI x2), some (pI x3), some (pI (x4 + 1)), some (pI x5), some (pI x6), some (pI x7), some (pI x8), none]) ⟨rfl, ⟨rfl, ⟨rfl, ⟨rfl, ⟨rfl, ⟨rfl, ⟨rfl, ⟨rfl, ⟨rfl, trivial⟩⟩⟩⟩⟩⟩⟩⟩⟩ ?_
    exact h
set_option maxHeartbeats 4000000 in
set_option maxRecDepth 20000 in
theorem sgL_areExaminersSo_102 {g : GG} {d : Nat} {c n : Nat} {m : PM} {Q : Ou → PM → Nat → Nat → Prop} {x1 : Int32} {x2 : Int32} {x3 : Int32} {x4 : Int32} {x5 : Int32} {x6 : Int32} {x7 : Int32} {x8 : Int32} (h : Wq g (d + 7) ML_areExaminersSo c n 31 [some (pO 10 8 0), some (pI x1), some (pI x2), some (pI x3), some (pI x4), some (pI x5), some (pI x6), some (pI x7), some (pI (x8 + 1)), none] [] m Q) : Wq g (d + 7) ML_areExaminersSo c n 102 [some (pO 10 8 0), some (pI x1), some (pI x2), some (pI x3), some (pI x4), some (pI x5), some (pI x6), some (pI x7), some (pI x8), none] [] m Q := by
  refine Wq.iinc (x := x8) (ls2 := [some (pO 10 8 0), some (pI x1), some (pI x2), some (pI x3), some (pI x4), some (pI x5), some (pI x6), some (pI x7), some (pI (x8 + 1)), none]) dL_areExaminersSo_102 rfl (by decide) rfl ?_
  refine Wq.goto (tgt := 31) dL_areExaminersSo_105 (by decide) ?_
  exact h
set_option maxHeartbeats 4000000 in
set_option maxRecDepth 20000 in
theorem sgL_areExaminersSo_108 {g : GG} {d : Nat} {c n : Nat} {m : PM} {Q : Ou → PM → Nat → Nat → Prop} {x1 : Int32} {x2 : Int32} {x3 : Int32} {x4 : Int32} {x5 : Int32} {x6 : Int32} {x7 : Int32} (h : Wp g (d + 6) MX4_examiner 0 [some (pO 10 8 0), some (pI x5), some (pI 0)] [] m (cI fun r1 m2 => Wp g (d + 6) MX4_examiner 0 [some (pO 10 8 0), some (pI x5), some (pI 1)] [] m2 (cI fun r3 m4 => Wp g (d + 6) MX4_examiner 0 [some (pO 10 8 0), some (pI x5), some (pI 5)] [] m4 (cI fun r5 m6 => Wp g (d + 6) MX4_examiner 0 [some (pO 10 8 0), some (pI x5), some (pI 6)] [] m6 (cI fun r7 m8 => Wp g (d + 6) MX4_examiner 0 [some (pO 10 8 0), some (pI x5), some (pI 7)] [] m8 (cI fun r9 m10 => Wp g (d + 6) MX4_examiner 0 [some (pO 10 8 0), some (pI x5), some (pI 8)] [] m10 (cI fun r11 m12 => Wq g (d + 7) ML_areExaminersSo c n 169 [some (pO 10 8 0), some (pI (x1 + r1)), some (pI (x2 + r3)), some (pI (x3 + x7)), some (pI x4), some (pI x5), some (pI x6), some (pI x7), some (pI (((r5 + r7) + r9) + r11)), none] [] m12 Q))))))) : Wq g (d + 7) ML_areExaminersSo c n 108 [some (pO 10 8 0), some (pI x1), some (pI x2), some (pI x3), some (pI x4), some (pI x5), some (pI x6), some (pI x7), none, none] [] m Q := by
  refine Wq.iload_n (x := x3) dL_areExaminersSo_108 rfl ?_
  refine Wq.iload (x := x7) dL_areExaminersSo_109 rfl ?_
  refine Wq.iadd dL_areExaminersSo_111 ?_
  refine Wq.istore_n (ls2 := [some (pO 10 8 0), some (pI x1), some (pI x2), some (pI (x3 + x7)), some (pI x4), some (pI x5), some (pI x6), some (pI x7), none, none]) dL_areExaminersSo_112 (by decide) rfl ?_
  refine Wq.iload_n (x := x1) dL_areExaminersSo_113 rfl ?_
  refine Wq.aload_n (t := 10) (r := 8) (j := 0) dL_areExaminersSo_114 rfl ?_
  refine Wq.iload (x := x5) dL_areExaminersSo_115 rfl ?_
  refine Wq.iconst (v := 0) dL_areExaminersSo_117 (by decide) ?_
  refine Wq.callVI (As := [pI x5, pI 0]) dL_areExaminersSo_118 fX4_examiner ml_L_53 rfl (by decide) rfl (Nat.le_of_ble_eq_true rfl) (Nat.le_of_ble_eq_true rfl) h (fun r1 m2 h => ?_)
  refine Wq.iadd dL_areExaminersSo_121 ?_
  refine Wq.istore_n (ls2 := [some (pO 10 8 0), some (pI (x1 + r1)), some (pI x2), some (pI (x3 + x7)), some (pI x4), some (pI x5), some (pI x6), some (pI x7), none, none]) dL_areExaminersSo_122 (by decide) rfl ?_
  refine Wq.iload_n (x := x2) dL_areExaminersSo_123 rfl ?_
  refine Wq.aload_n (t := 10) (r := 8) (j := 0) dL_areExaminersSo_124 rfl ?_
  refine Wq.iload (x := x5) dL_areExaminersSo_125 rfl ?_
  refine Wq.iconst (v := 1) dL_areExaminersSo_127 (by decide) ?_
  refine Wq.callVI (As := [pI x5, pI 1]) dL_areExaminersSo_128 fX4_examiner ml_L_53 rfl (by decide) rfl (Nat.le_of_ble_eq_true rfl) (Nat.le_of_ble_eq_true rfl) h (fun r3 m4 h => ?_)
  refine Wq.iadd dL_areExaminersSo_131 ?_
  refine Wq.istore_n (ls2 := [some (pO 10 8 0), some (pI (x1 + r1)), some (pI (x2 + r3)), some (pI (x3 + x7)), some (pI x4), some (pI x5), some (pI x6), some (pI x7), none, none]) dL_areExaminersSo_132 (by decide) rfl ?_
  refine Wq.aload_n (t := 10) (r := 8) (j := 0) dL_areExaminersSo_133 rfl ?_
  refine Wq.iload (x := x5) dL_areExaminersSo_134 rfl ?_
  refine Wq.iconst (v := 5) dL_areExaminersSo_136 (by decide) ?_
  refine Wq.callVI (As := [pI x5, pI 5]) dL_areExaminersSo_137 fX4_examiner ml_L_53 rfl (by decide) rfl (Nat.le_of_ble_eq_true rfl) (Nat.le_of_ble_eq_true rfl) h (fun r5 m6 h => ?_)
  refine Wq.aload_n (t := 10) (r := 8) (j := 0) dL_areExaminersSo_140 rfl ?_
  refine Wq.iload (x := x5) dL_areExaminersSo_141 rfl ?_
  refine Wq.bipush (v := 6) dL_areExaminersSo_143 (by decide) ?_
  refine Wq.callVI (As := [pI x5, pI 6]) dL_areExaminersSo_145 fX4_examiner ml_L_53 rfl (by decide) rfl (Nat.le_of_ble_eq_true rfl) (Nat.le_of_ble_eq_true rfl) h (fun r7 m8 h => ?_)
  refine Wq.iadd dL_areExaminersSo_148 ?_
  refine Wq.aload_n (t := 10) (r := 8) (j := 0) dL_areExaminersSo_149 rfl ?_
  refine Wq.iload (x := x5) dL_areExaminersSo_150 rfl ?_
  refine Wq.bipush (v := 7) dL_areExaminersSo_152 (by decide) ?_
  refine Wq.callVI (As := [pI x5, pI 7]) dL_areExaminersSo_154 fX4_examiner ml_L_53 rfl (by decide) rfl (Nat.le_of_ble_eq_true rfl) (Nat.le_of_ble_eq_true rfl) h (fun r9 m10 h => ?_)
  refine Wq.iadd dL_areExaminersSo_157 ?_
  refine Wq.aload_n (t := 10) (r := 8) (j := 0) dL_areExaminersSo_158 rfl ?_
  refine Wq.iload (x := x5) dL_areExaminersSo_159 rfl ?_
  refine Wq.bipush (v := 8) dL_areExaminersSo_161 (by decide) ?_
  refine Wq.callVI (As := [pI x5, pI 8]) dL_areExaminersSo_163 fX4_examiner ml_L_53 rfl (by decide) rfl (Nat.le_of_ble_eq_true rfl) (Nat.le_of_ble_eq_true rfl) h (fun r11 m12 h => ?_)
  refine Wq.iadd dL_areExaminersSo_166 ?_
  refine Wq.istore (ls2 := [some (pO 10 8 0), some (pI (x1 + r1)), some (pI (x2 + r3)), some (pI (x3 + x7)), some (pI x4), some (pI x5), some (pI x6), some (pI x7), some (pI (((r5 + r7) + r9) + r11)), none]) dL_areExaminersSo_167 (by decide) rfl ?_
  exact h
set_option maxHeartbeats 4000000 in
set_option maxRecDepth 20000 in
theorem sgL_areExaminersSo_169 {g : GG} {d : Nat} {c n : Nat} {m : PM} {Q : Ou → PM → Nat → Nat → Prop} {x1 : Int32} {x2 : Int32} {x3 : Int32} {x4 : Int32} {x5 : Int32} {x6 : Int32} {x7 : Int32} {x8 : Int32} (h : Wp g (d + 6) MX4_examiner 0 [some (pO 10 8 0), some (pI x5), some (pI 2)] [] m (cI fun r1 m2 => ((¬ x7 = r1 → Q (.inl (some (pI 0))) m2 c n) ∧ (x7 = r1 → Wp g (d + 6) MX4_examiner 0 [some (pO 10 8 0), some (pI x5), some (pI 3)] [] m2 (cI fun r4 m5 => ((¬ x6 = r4 → Q (.inl (some (pI 0))) m5 c n) ∧ (x6 = r4 → Wp g (d + 6) MX4_examiner 0 [some (pO 10 8 0), some (pI x5), some (pI 0)] [] m5 (cI fun r7 m8 => ((x8 = r7 → Wq g (d + 7) ML_areExaminersSo c n 12 [some (pO 10 8 0), some (pI x1), some (pI x2), some (pI x3), some (pI x4), some (pI (x5 + 1)), none, none, none, none] [] m8 Q) ∧ (¬ x8 = r7 → Q (.inl (some (pI 0))) m8 c n)))))))))) : Wq g (d + 7) ML_areExaminersSo c n 169 [some (pO 10 8 0), some (pI x1), some (pI x2), some (pI x3), some (pI x4), some (pI x5), some (pI x6), some (pI x7), some (pI x8), none] [] m Q := by
  refine Wq.iload (x := x7) dL_areExaminersSo_169 rfl ?_
  refine Wq.aload_n (t := 10) (r := 8) (j := 0) dL_areExaminersSo_171 rfl ?_
  refine Wq.iload (x := x5) dL_areExaminersSo_172 rfl ?_
  refine Wq.iconst (v := 2) dL_areExaminersSo_174 (by decide) ?_
  refine Wq.callVI (As := [pI x5, pI 2]) dL_areExaminersSo_175 fX4_examiner ml_L_53 rfl (by decide) rfl (Nat.le_of_ble_eq_true rfl) (Nat.le_of_ble_eq_true rfl) h (fun r1 m2 h => ?_)
  refine Wq.icmpne (tgt := 205) dL_areExaminersSo_178 (by decide) (fun q3 => ?_) (fun q3 => ?_)
  · replace h := h.1 q3
    refine Wq.iconst (v := 0) dL_areExaminersSo_205 (by decide) ?_
    exact Wq.iret dL_areExaminersSo_206 (⟨_, rfl, by decide⟩) h
  · replace h := h.2 q3
    refine Wq.iload (x := x6) dL_areExaminersSo_181 rfl ?_
    refine Wq.aload_n (t := 10) (r := 8) (j := 0) dL_areExaminersSo_183 rfl ?_
    refine Wq.iload (x := x5) dL_areExaminersSo_184 rfl ?_
    refine Wq.iconst (v := 3) dL_areExaminersSo_186 (by decide) ?_
    refine Wq.callVI (As := [pI x5, pI 3]) dL_areExaminersSo_187 fX4_examiner ml_L_53 rfl (by decide) rfl (Nat.le_of_ble_eq_true rfl) (Nat.le_of_ble_eq_true rfl) h (fun r4 m5 h => ?_)
    refine Wq.icmpne (tgt := 205) dL_areExaminersSo_190 (by decide) (fun q6 => ?_) (fun q6 => ?_)
    · replace h := h.1 q6
      refine Wq.iconst (v := 0) dL_areExaminersSo_205 (by decide) ?_
      exact Wq.iret dL_areExaminersSo_206 (⟨_, rfl, by decide⟩) h
    · replace h := h.2 q6
      refine Wq.iload (x := x8) dL_areExaminersSo_193 rfl ?_
      refine Wq.aload_n (t := 10) (r := 8) (j := 0) dL_areExaminersSo_195 rfl ?_
      refine Wq.iload (x := x5) dL_areExaminersSo_196 rfl ?_
      refine Wq.iconst (v := 0) dL_areExaminersSo_198 (by decide) ?_
      refine Wq.callVI (As := [pI x5, pI 0]) dL_areExaminersSo_199 fX4_examiner ml_L_53 rfl (by decide) rfl (Nat.le_of_ble_eq_true rfl) (Nat.le_of_ble_eq_true rfl) h (fun r7 m8 h => ?_)
      refine Wq.icmpeq (tgt := 207) dL_areExaminersSo_202 (by decide) (fun q9 => ?_) (fun q9 => ?_)
      · replace h := h.1 q9
        refine Wq.iinc (x := x5) (ls2 := [some (pO 10 8 0), some (pI x1), some (pI x2), some (pI x3), some (pI x4), some (pI (x5 + 1)), some (pI x6), some (pI x7), some (pI x8), none]) dL_areExaminersSo_207 rfl (by decide) rfl ?_
        refine Wq.goto (tgt := 12) dL_areExaminersSo_210 (by decide) ?_
        refine Wq.few (ls' := [some (pO 10 8 0), some (pI x1), some (pI x2), some (pI x3), some (pI x4), some (pI (x5 + 1)), none, none, none, none]) ⟨rfl, ⟨rfl, ⟨rfl, ⟨rfl, ⟨rfl, ⟨rfl, trivial⟩⟩⟩⟩⟩⟩ ?_
        exact h
      · replace h := h.2 q9
        refine Wq.iconst (v := 0) dL_areExaminersSo_205 (by decide) ?_
        exact Wq.iret dL_areExaminersSo_206 (⟨_, rfl, by decide⟩) h
set_option maxHeartbeats 4000000 in
set_option maxRecDepth 20000 in
theorem sgL_arePupilsSo {g : GG} {d : Nat} {c n : Nat} {m : PM} {Q : Ou → PM → Nat → Nat → Prop}  (h : Wq g (d + 7) ML_arePupilsSo c n 15 [some (pO 10 8 0), some (pI 0), some (pI 0), some (pI 0), some (pI 0), some (pI 0), some (pI 0), none, none, none] [] m Q) : Wq g (d + 7) ML_arePupilsSo c n 0 [some (pO 10 8 0)] [] m Q := by
  refine Wq.few (ls' := [some (pO 10 8 0), none, none, none, none, none, none, none, none, none]) ⟨rfl, trivial⟩ ?_
  refine Wq.iconst (v := 0) dL_arePupilsSo_0 (by decide) ?_
  refine Wq.istore_n (ls2 := [some (pO 10 8 0), some (pI 0), none, none, none, none, none, none, none, none]) dL_arePupilsSo_1 (by decide) rfl ?_
  refine Wq.iconst (v := 0) dL_arePupilsSo_2 (by decide) ?_
  refine Wq.istore_n (ls2 := [some (pO 10 8 0), some (pI 0), some (pI 0), none, none, none, none, none, none, none]) dL_arePupilsSo_3 (by decide) rfl ?_
  refine Wq.iconst (v := 0) dL_arePupilsSo_4 (by decide) ?_
  refine Wq.istore_n (ls2 := [some (pO 10 8 0), some (pI 0), some (pI 0), some (pI 0), none, none, none, none, none, none]) dL_arePupilsSo_5 (by decide) rfl ?_
  refine Wq.iconst (v := 0) dL_arePupilsSo_6 (by decide) ?_
  refine Wq.istore (ls2 := [some (pO 10 8 0), some (pI 0), some (pI 0), some (pI 0), some (pI 0), none, none, none, none, none]) dL_arePupilsSo_7 (by decide) rfl ?_
  refine Wq.iconst (v := 0) dL_arePupilsSo_9 (by decide) ?_
  refine Wq.istore (ls2 := [some (pO 10 8 0), some (pI 0), some (pI 0), some (pI 0), some (pI 0), some (pI 0), none, none, none, none]) dL_arePupilsSo_10 (by decide) rfl ?_
  refine Wq.iconst (v := 0) dL_arePupilsSo_12 (by decide) ?_
  refine Wq.istore (ls2 := [some (pO 10 8 0), some (pI 0), some (pI 0), some (pI 0), some (pI 0), some (pI 0), some (pI 0), none, none, none]) dL_arePupilsSo_13 (by decide) rfl ?_
  exact h
set_option maxHeartbeats 4000000 in
set_option maxRecDepth 20000 in
theorem sgL_arePupilsSo_15 {g : GG} {d : Nat} {c n : Nat} {m : PM} {Q : Ou → PM → Nat → Nat → Prop} {x1 : Int32} {x2 : Int32} {x3 : Int32} {x4 : Int32} {x5 : Int32} {x6 : Int32} (h : Wp g (d + 6) MX4_count 0 [some (pO 10 8 0), some (pI 2)] [] m (cI fun r1 m2 => ((r1 ≤ x6 → Wp g (d + 6) MX4_count 0 [some (pO 10 8 0), some (pI 9)] [] m2 (cI fun r4 m5 => ((¬ x1 = r4 → Wq g (d + 7) ML_arePupilsSo c n 285 [some (pO 10 8 0), none, none, none, none, none, some (pI 0), none, none, none] [] m5 Q) ∧ (x1 = r4 → Wp g (d + 6) MX4_count 0 [some (pO 10 8 0), some (pI 11)] [] m5 (cI fun r7 m8 => ((¬ x2 = r7 → Wq g (d + 7) ML_arePupilsSo c n 285 [some (pO 10 8 0), none, none, none, none, none, some (pI 0), none, none, none] [] m8 Q) ∧ (x2 = r7 → Wp g (d + 6) MX4_count 0 [some (pO 10 8 0), some (pI 13)] [] m8 (cI fun r10 m11 => ((¬ x3 = r10 → Wq g (d + 7) ML_arePupilsSo c n 285 [some (pO 10 8 0), none, none, none, none, none, some (pI 0), none, none, none] [] m11 Q) ∧ (x3 = r10 → ((¬ x4 = ((1 <<< (x5 &&& 31)) - 1) → Wq g (d + 7) ML_arePupilsSo c n 285 [some (pO 10 8 0), none, none, none, none, none, some (pI 0), none, none, none] [] m11 Q) ∧ (x4 = ((1 <<< (x5 &&& 31)) - 1) → Wp g (d + 6) MX4_count 0 [some (pO 10 8 0), some (pI 4)] [] m11 (cI fun r14 m15 => ((¬ x5 = r14 → Wq g (d + 7) ML_arePupilsSo c n 285 [some (pO 10 8 0), none, none, none, none, none, some (pI 0), none, none, none] [] m15 Q) ∧ (x5 = r14 → Wq g (d + 7) ML_arePupilsSo c n 285 [some (pO 10 8 0), none, none, none, none, none, some (pI 1), none, none, none] [] m15 Q))))))))))))))) ∧ (¬ r1 ≤ x6 → Wp g (d + 6) MX4_pupil 0 [some (pO 10 8 0), some (pI x6), some (pI 0)] [] m2 (cI fun r17 m18 => Wp g (d + 6) MX4_pupil 0 [some (pO 10 8 0), some (pI x6), some (pI 5)] [] m18 (cI fun r19 m20 => Wq g (d + 7) ML_arePupilsSo c n 43 [some (pO 10 8 0), some (pI x1), some (pI x2), some (pI x3), some (pI x4), some (pI x5), some (pI x6), some (pI r17), some (pI r19), none] [] m20 Q)))))) : Wq g (d + 7) ML_arePupilsSo c n 15 [some (pO 10 8 0), some (pI x1), some (pI x2), some (pI x3), some (pI x4), some (pI x5), some (pI x6), none, none, none] [] m Q := by
  refine Wq.iload (x := x6) dL_arePupilsSo_15 rfl ?_
  refine Wq.aload_n (t := 10) (r := 8) (j := 0) dL_arePupilsSo_17 rfl ?_
  refine Wq.iconst (v := 2) dL_arePupilsSo_18 (by decide) ?_
  refine Wq.callVI (As := [pI 2]) dL_arePupilsSo_19 fX4_count ml_L_8 rfl (by decide) rfl (Nat.le_of_ble_eq_true rfl) (Nat.le_of_ble_eq_true rfl) h (fun r1 m2 h => ?_)
  refine Wq.icmpge (tgt := 227) dL_arePupilsSo_22 (by decide) (fun q3 => ?_) (fun q3 => ?_)
  · replace h := h.1 q3
    refine Wq.iload_n (x := x1) dL_arePupilsSo_227 rfl ?_
    refine Wq.aload_n (t := 10) (r := 8) (j := 0) dL_arePupilsSo_228 rfl ?_
    refine Wq.bipush (v := 9) dL_arePupilsSo_229 (by decide) ?_
    refine Wq.callVI (As := [pI 9]) dL_arePupilsSo_231 fX4_count ml_L_8 rfl (by decide) rfl (Nat.le_of_ble_eq_true rfl) (Nat.le_of_ble_eq_true rfl) h (fun r4 m5 h => ?_)
    refine Wq.icmpne (tgt := 282) dL_arePupilsSo_234 (by decide) (fun q6 => ?_) (fun q6 => ?_)
    · replace h := h.1 q6
      refine Wq.iconst (v := 0) dL_arePupilsSo_282 (by decide) ?_
      refine Wq.istore (ls2 := [some (pO 10 8 0), some (pI x1), some (pI x2), some (pI x3), some (pI x4), some (pI x5), some (pI 0), none, none, none]) dL_arePupilsSo_283 (by decide) rfl ?_
      refine Wq.few (ls' := [some (pO 10 8 0), none, none, none, none, none, some (pI 0), none, none, none]) ⟨rfl, ⟨rfl, trivial⟩⟩ ?_
      exact h
    · replace h := h.2 q6
      refine Wq.iload_n (x := x2) dL_arePupilsSo_237 rfl ?_
      refine Wq.aload_n (t := 10) (r := 8) (j := 0) dL_arePupilsSo_238 rfl ?_
      refine Wq.bipush (v := 11) dL_arePupilsSo_239 (by decide) ?_
      refine Wq.callVI (As := [pI 11]) dL_arePupilsSo_241 fX4_count ml_L_8 rfl (by decide) rfl (Nat.le_of_ble_eq_true rfl) (Nat.le_of_ble_eq_true rfl) h (fun r7 m8 h => ?_)
      refine Wq.icmpne (tgt := 282) dL_arePupilsSo_244 (by decide) (fun q9 => ?_) (fun q9 => ?_)
      · replace h := h.1 q9
        refine Wq.iconst (v := 0) dL_arePupilsSo_282 (by decide) ?_
        refine Wq.istore (ls2 := [some (pO 10 8 0), some (pI x1), some (pI x2), some (pI x3), some (pI x4), some (pI x5), some (pI 0), none, none, none]) dL_arePupilsSo_283 (by decide) rfl ?_
        refine Wq.few (ls' := [some (pO 10 8 0), none, none, none, none, none, some (pI 0), none, none, none]) ⟨rfl, ⟨rfl, trivial⟩⟩ ?_
        exact h
      · replace h := h.2 q9
        refine Wq.iload_n (x := x3) dL_arePupilsSo_247 rfl ?_
        refine Wq.aload_n (t := 10) (r := 8) (j := 0) dL_arePupilsSo_248 rfl ?_
        refine Wq.bipush (v := 13) dL_arePupilsSo_249 (by decide) ?_
        refine Wq.callVI (As := [pI 13]) dL_arePupilsSo_251 fX4_count ml_L_8 rfl (by decide) rfl (Nat.le_of_ble_eq_true rfl) (Nat.le_of_ble_eq_true rfl) h (fun r10 m11 h => ?_)
        refine Wq.icmpne (tgt := 282) dL_arePupilsSo_254 (by decide) (fun q12 => ?_) (fun q12 => ?_)
        · replace h := h.1 q12
          refine Wq.iconst (v := 0) dL_arePupilsSo_282 (by decide) ?_
          refine Wq.istore (ls2 := [some (pO 10 8 0), some (pI x1), some (pI x2), some (pI x3), some (pI x4), some (pI x5), some (pI 0), none, none, none]) dL_arePupilsSo_283 (by decide) rfl ?_
          refine Wq.few (ls' := [some (pO 10 8 0), none, none, none, none, none, some (pI 0), none, none, none]) ⟨rfl, ⟨rfl, trivial⟩⟩ ?_
          exact h
        · replace h := h.2 q12
          refine Wq.iload (x := x4) dL_arePupilsSo_257 rfl ?_
          refine Wq.iconst (v := 1) dL_arePupilsSo_259 (by decide) ?_
          refine Wq.iload (x := x5) dL_arePupilsSo_260 rfl ?_
          refine Wq.ishl dL_arePupilsSo_262 ?_
          refine Wq.iconst (v := 1) dL_arePupilsSo_263 (by decide) ?_
          refine Wq.isub dL_arePupilsSo_264 ?_
          refine Wq.icmpne (tgt := 282) dL_arePupilsSo_265 (by decide) (fun q13 => ?_) (fun q13 => ?_)
          · replace h := h.1 q13
            refine Wq.iconst (v := 0) dL_arePupilsSo_282 (by decide) ?_
            refine Wq.istore (ls2 := [some (pO 10 8 0), some (pI x1), some (pI x2), some (pI x3), some (pI x4), some (pI x5), some (pI 0), none, none, none]) dL_arePupilsSo_283 (by decide) rfl ?_
            refine Wq.few (ls' := [some (pO 10 8 0), none, none, none, none, none, some (pI 0), none, none, none]) ⟨rfl, ⟨rfl, trivial⟩⟩ ?_
            exact h
          · replace h := h.2 q13
            refine Wq.iload (x := x5) dL_arePupilsSo_268 rfl ?_
            refine Wq.aload_n (t := 10) (r := 8) (j := 0) dL_arePupilsSo_270 rfl ?_
            refine Wq.iconst (v := 4) dL_arePupilsSo_271 (by decide) ?_
            refine Wq.callVI (As := [pI 4]) dL_arePupilsSo_272 fX4_count ml_L_8 rfl (by decide) rfl (Nat.le_of_ble_eq_true rfl) (Nat.le_of_ble_eq_true rfl) h (fun r14 m15 h => ?_)
            refine Wq.icmpne (tgt := 282) dL_arePupilsSo_275 (by decide) (fun q16 => ?_) (fun q16 => ?_)
            · replace h := h.1 q16
              refine Wq.iconst (v := 0) dL_arePupilsSo_282 (by decide) ?_
              refine Wq.istore (ls2 := [some (pO 10 8 0), some (pI x1), some (pI x2), some (pI x3), some (pI x4), some (pI x5), some (pI 0), none, none, none]) dL_arePupilsSo_283 (by decide) rfl ?_
              refine Wq.few (ls' := [some (pO 10 8 0), none, none, none, none, none, some (pI 0), none, none, none]) ⟨rfl, ⟨rfl, trivial⟩⟩ ?_
              exact h
            · replace h := h.2 q16
              refine Wq.iconst (v := 1) dL_arePupilsSo_278 (by decide) ?_
              refine Wq.goto (tgt := 283) dL_arePupilsSo_279 (by decide) ?_
              refine Wq.istore (ls2 := [some (pO 10 8 0), some (pI x1), some (pI x2), some (pI x3), some (pI x4), some (pI x5), some (pI 1), none, none, none]) dL_arePupilsSo_283 (by decide) rfl ?_
              refine Wq.few (ls' := [some (pO 10 8 0), none, none, none, none, none, some (pI 1), none, none, none]) ⟨rfl, ⟨rfl, trivial⟩⟩ ?_
              exact h
  · replace h := h.2 q3
    refine Wq.aload_n (t := 10) (r := 8) (j := 0) dL_arePupilsSo_25 rfl ?_
    refine Wq.iload (x := x6) dL_arePupilsSo_26 rfl ?_
    refine Wq.iconst (v := 0) dL_arePupilsSo_28 (by decide) ?_
    refine Wq.callVI (As := [pI x6, pI 0]) dL_arePupilsSo_29 fX4_pupil ml_L_20 rfl (by decide) rfl (Nat.le_of_ble_eq_true rfl) (Nat.le_of_ble_eq_true rfl) h (fun r17 m18 h => ?_)
    refine Wq.istore (ls2 := [some (pO 10 8 0), some (pI x1), some (pI x2), some (pI x3), some (pI x4), some (pI x5), some (pI x6), some (pI r17), none, none]) dL_arePupilsSo_32 (by decide) rfl ?_
    refine Wq.aload_n (t := 10) (r := 8) (j := 0) dL_arePupilsSo_34 rfl ?_
    refine Wq.iload (x := x6) dL_arePupilsSo_35 rfl ?_
    refine Wq.iconst (v := 5) dL_arePupilsSo_37 (by decide) ?_
    refine Wq.callVI (As := [pI x6, pI 5]) dL_arePupilsSo_38 fX4_pupil ml_L_20 rfl (by decide) rfl (Nat.le_of_ble_eq_true rfl) (Nat.le_of_ble_eq_true rfl) h (fun r19 m20 h => ?_)
    refine Wq.istore (ls2 := [some (pO 10 8 0), some (pI x1), some (pI x2), some (pI x3), some (pI x4), some (pI x5), some (pI x6), some (pI r17), some (pI r19), none]) dL_arePupilsSo_41 (by decide) rfl ?_
    exact h
set_option maxHeartbeats 4000000 in
set_option maxRecDepth 20000 in
theorem sgL_arePupilsSo_43 {g : GG} {d : Nat} {c n : Nat} {m : PM} {Q : Ou → PM → Nat → Nat → Prop} {x1 : Int32} {x2 : Int32} {x3 : Int32} {x4 : Int32} {x5 : Int32} {x6 : Int32} {x7 : Int32} {x8 : Int32} (h : Wp g (d + 6) MX4_pupil 0 [some (pO 10 8 0), some (pI x6), some (pI 8)] [] m (cI fun r1 m2 => Wp g (d + 6) MX4_pupil 0 [some (pO 10 8 0), some (pI x6), some (pI 10)] [] m2 (cI fun r3 m4 => ((0 ≤ x8 → Wq g (d + 7) ML_arePupilsSo c n 79 [some (pO 10 8 0), some (pI (x1 + r1)), some (pI (x2 + r3)), some (pI (x3 + x8)), some (pI x4), some (pI x5), some (pI x6), some (pI x7), some (pI x8), none] [] m4 Q) ∧ (¬ 0 ≤ x8 → Wq g (d + 7) ML_arePupilsSo c n 79 [some (pO 10 8 0), some (pI (x1 + r1)), some (pI (x2 + r3)), some (pI (x3 + 0)), some (pI x4), some (pI x5), some (pI x6), some (pI x7), some (pI x8), none] [] m4 Q))))) : Wq g (d + 7) ML_arePupilsSo c n 43 [some (pO 10 8 0), some (pI x1), some (pI x2), some (pI x3), some (pI x4), some (pI x5), some (pI x6), some (pI x7), some (pI x8), none] [] m Q := by
  refine Wq.iload_n (x := x1) dL_arePupilsSo_43 rfl ?_
  refine Wq.aload_n (t := 10) (r := 8) (j := 0) dL_arePupilsSo_44 rfl ?_
  refine Wq.iload (x := x6) dL_arePupilsSo_45 rfl ?_
  refine Wq.bipush (v := 8) dL_arePupilsSo_47 (by decide) ?_
  refine Wq.callVI (As := [pI x6, pI 8]) dL_arePupilsSo_49 fX4_pupil ml_L_20 rfl (by decide) rfl (Nat.le_of_ble_eq_true rfl) (Nat.le_of_ble_eq_true rfl) h (fun r1 m2 h => ?_)
  refine Wq.iadd dL_arePupilsSo_52 ?_
  refine Wq.istore_n (ls2 := [some (pO 10 8 0), some (pI (x1 + r1)), some (pI x2), some (pI x3), some (pI x4), some (pI x5), some (pI x6), some (pI x7), some (pI x8), none]) dL_arePupilsSo_53 (by decide) rfl ?_
  refine Wq.iload_n (x := x2) dL_arePupilsSo_54 rfl ?_
  refine Wq.aload_n (t := 10) (r := 8) (j := 0) dL_arePupilsSo_55 rfl ?_
  refine Wq.iload (x := x6) dL_arePupilsSo_56 rfl ?_
  refine Wq.bipush (v := 10) dL_arePupilsSo_58 (by decide) ?_
  refine Wq.callVI (As := [pI x6, pI 10]) dL_arePupilsSo_60 fX4_pupil ml_L_20 rfl (by decide) rfl (Nat.le_of_ble_eq_true rfl) (Nat.le_of_ble_eq_true rfl) h (fun r3 m4 h => ?_)
  refine Wq.iadd dL_arePupilsSo_63 ?_
  refine Wq.istore_n (ls2 := [some (pO 10 8 0), some (pI (x1 + r1)), some (pI (x2 + r3)), some (pI x3), some (pI x4), some (pI x5), some (pI x6), some (pI x7), some (pI x8), none]) dL_arePupilsSo_64 (by decide) rfl ?_
  refine Wq.iload_n (x := x3) dL_arePupilsSo_65 rfl ?_
  refine Wq.iload (x := x8) dL_arePupilsSo_66 rfl ?_
  refine Wq.ifge (tgt := 75) dL_arePupilsSo_68 (by decide) (fun q5 => ?_) (fun q5 => ?_)
  · replace h := h.1 q5
    refine Wq.iload (x := x8) dL_arePupilsSo_75 rfl ?_
    refine Wq.iadd dL_arePupilsSo_77 ?_
    refine Wq.istore_n (ls2 := [some (pO 10 8 0), some (pI (x1 + r1)), some (pI (x2 + r3)), some (pI (x3 + x8)), some (pI x4), some (pI x5), some (pI x6), some (pI x7), some (pI x8), none]) dL_arePupilsSo_78 (by decide) rfl ?_
    exact h
  · replace h := h.2 q5
    refine Wq.iconst (v := 0) dL_arePupilsSo_71 (by decide) ?_
    refine Wq.goto (tgt := 77) dL_arePupilsSo_72 (by decide) ?_
    refine Wq.iadd dL_arePupilsSo_77 ?_
    refine Wq.istore_n (ls2 := [some (pO 10 8 0), some (pI (x1 + r1)), some (pI (x2 + r3)), some (pI (x3 + 0)), some (pI x4), some (pI x5), some (pI x6), some (pI x7), some (pI x8), none]) dL_arePupilsSo_78 (by decide) rfl ?_
    exact h
set_option maxHeartbeats 4000000 in
set_option maxRecDepth 20000 in
theorem sgL_arePupilsSo_79 {g : GG} {d : Nat} {c n : Nat} {m : PM} {Q : Ou → PM → Nat → Nat → Prop} {x1 : Int32} {x2 : Int32} {x3 : Int32} {x4 : Int32} {x5 : Int32} {x6 : Int32} {x7 : Int32} {x8 : Int32} (h : ((¬ x7 = 1 → Wq g (d + 7) ML_arePupilsSo c n 95 [some (pO 10 8 0), some (pI x1), some (pI x2), some (pI x3), some (pI x4), some (pI (x5 + 0)), some (pI x6), some (pI x7), some (pI x8), none] [] m Q) ∧ (x7 = 1 → Wq g (d + 7) ML_arePupilsSo c n 95 [some (pO 10 8 0), some (pI x1), some (pI x2), some (pI x3), some (pI x4), some (pI (x5 + 1)), some (pI x6), some (pI x7), some (pI x8), none] [] m Q))) : Wq g (d + 7) ML_arePupilsSo c n 79 [some (pO 10 8 0), some (pI x1), some (pI x2), some (pI x3), some (pI x4), some (pI x5), some (pI x6), some (pI x7), some (pI x8), none] [] m Q := by
  refine Wq.iload (x := x5) dL_arePupilsSo_79 rfl ?_
  refine Wq.iload (x := x7) dL_arePupilsSo_81 rfl ?_
  refine Wq.iconst (v := 1) dL_arePupilsSo_83 (by decide) ?_
  refine Wq.icmpne (tgt := 91) dL_arePupilsSo_84 (by decide) (fun q1 => ?_) (fun q1 => ?_)
  · replace h := h.1 q1
    refine Wq.iconst (v := 0) dL_arePupilsSo_91 (by decide) ?_
    refine Wq.iadd dL_arePupilsSo_92 ?_
    refine Wq.istore (ls2 := [some (pO 10 8 0), some (pI x1), some (pI x2), some (pI x3), some (pI x4), some (pI (x5 + 0)), some (pI x6), some (pI x7), some (pI x8), none]) dL_arePupilsSo_93 (by decide) rfl ?_
    exact h
  · replace h := h.2 q1
    refine Wq.iconst (v := 1) dL_arePupilsSo_87 (by decide) ?_
    refine Wq.goto (tgt := 92) dL_arePupilsSo_88 (by decide) ?_
    refine Wq.iadd dL_arePupilsSo_92 ?_
    refine Wq.istore (ls2 := [some (pO 10 8 0), some (pI x1), some (pI x2), some (pI x3), some (pI x4), some (pI (x5 + 1)), some (pI x6), some (pI x7), some (pI x8), none]) dL_arePupilsSo_93 (by decide) rfl ?_
    exact h
set_option maxHeartbeats 4000000 in
set_option maxRecDepth 20000 in
theorem sgL_arePupilsSo_95 {g : GG} {d : Nat} {c n : Nat} {m : PM} {Q : Ou → PM → Nat → Nat → Prop} {x1 : Int32} {x2 : Int32} {x3 : Int32} {x4 : Int32} {x5 : Int32} {x6 : Int32} {x7 : Int32} {x8 : Int32} (h : ((¬ x7 = 1 → Wq g (d + 7) ML_arePupilsSo c n 120 [some (pO 10 8 0), some (pI x1), some (pI x2), some (pI x3), some (pI (x4 ||| 0)), some (pI x5), some (pI x6), some (pI x7), some (pI x8), none] [] m Q) ∧ (x7 = 1 → Wp g (d + 6) MX4_pupil 0 [some (pO 10 8 0), some (pI x6), some (pI 9)] [] m (cI fun r2 m3 => Wq g (d + 7) ML_arePupilsSo c n 120 [some (pO 10 8 0), some (pI x1), some (pI x2), some (pI x3), some (pI (x4 ||| (1 <<< (r2 &&& 31)))), some (pI x5), some (pI x6), some (pI x7), some (pI x8), none] [] m3 Q)))) : Wq g (d + 7) ML_arePupilsSo c n 95 [some (pO 10 8 0), some (pI x1), some (pI x2), some (pI x3), some (pI x4), some (pI x5), some (pI x6), some (pI x7), some (pI x8), none] [] m Q := by
  refine Wq.iload (x := x4) dL_arePupilsSo_95 rfl ?_
  refine Wq.iload (x := x7) dL_arePupilsSo_97 rfl ?_
  refine Wq.iconst (v := 1) dL_arePupilsSo_99 (by decide) ?_
  refine Wq.icmpne (tgt := 116) dL_arePupilsSo_100 (by decide) (fun q1 => ?_) (fun q1 => ?_)
  · replace h := h.1 q1
    refine Wq.iconst (v := 0) dL_arePupilsSo_116 (by decide) ?_
    refine Wq.ior dL_arePupilsSo_117 ?_
    refine Wq.istore (ls2 := [some (pO 10 8 0), some (pI x1), some (pI x2), some (pI x3), some (pI (x4 ||| 0)), some (pI x5), some (pI x6), some (pI x7), some (pI x8), none]) dL_arePupilsSo_118 (by decide) rfl ?_
    exact h
  · replace h := h.2 q1
    refine Wq.iconst (v := 1) dL_arePupilsSo_103 (by decide) ?_
    refine Wq.aload_n (t := 10) (r := 8) (j := 0) dL_arePupilsSo_104 rfl ?_
    refine Wq.iload (x := x6) dL_arePupilsSo_105 rfl ?_
    refine Wq.bipush (v := 9) dL_arePupilsSo_107 (by decide) ?_
    refine Wq.callVI (As := [pI x6, pI 9]) dL_arePupilsSo_109 fX4_pupil ml_L_20 rfl (by decide) rfl (Nat.le_of_ble_eq_true rfl) (Nat.le_of_ble_eq_true rfl) h (fun r2 m3 h => ?_)
    refine Wq.ishl dL_arePupilsSo_112 ?_
    refine Wq.goto (tgt := 117) dL_arePupilsSo_113 (by decide) ?_
    refine Wq.ior dL_arePupilsSo_117 ?_
    refine Wq.istore (ls2 := [some (pO 10 8 0), some (pI x1), some (pI x2), some (pI x3), some (pI (x4 ||| (1 <<< (r2 &&& 31)))), some (pI x5), some (pI x6), some (pI x7), some (pI x8), none]) dL_arePupilsSo_118 (by decide) rfl ?_
    exact h
set_option maxHeartbeats 4000000 in
set_option maxRecDepth 20000 in
theorem sgL_arePupilsSo_120 {g : GG} {d : Nat} {c n : Nat} {m : PM} {Q : Ou → PM → Nat → Nat → Prop} {x1 : Int32} {x2 : Int32} {x3 : Int32} {x4 : Int32} {x5 : Int32} {x6 : Int32} {x7 : Int32} {x8 : Int32} (h : ((¬ x7 = 2 → ((x8 < 0 → ((¬ x7 = 1 → Wp g (d + 6) MX4_pupil 0 [some (pO 10 8 0), some (pI x6), some (pI 9)] [] m (cI fun r4 m5 => ((r4 < 0 → ((¬ x7 = 2 → Wq g (d + 7) ML_arePupilsSo c n 214 [some (pO 10 8 0), some (pI x1), some (pI x2), some (pI x3), some (pI x4), some (pI x5), some (pI x6), none, none, some (pI 1)] [] m5 Q) ∧ (x7 = 2 → Wp g (d + 6) MX4_pupil 0 [some (pO 10 8 0), some (pI x6), some (pI 7)] [] m5 (cI fun r8 m9 => Wp g (d + 6) MX4_pupil 0 [some (pO 10 8 0), some (pI x6), some (pI 6)] [] m9 (cI fun r10 m11 => Wp g (d + 6) MX4_slot 0 [some (pO 10 8 0), some (pI r8), some (pI x8), some (pI r10)] [] m11 (cI fun r12 m13 => ((¬ r12 = x6 → Wq g (d + 7) ML_arePupilsSo c n 214 [some (pO 10 8 0), some (pI x1), some (pI x2), some (pI x3), some (pI x4), some (pI x5), some (pI x6), none, none, some (pI 0)] [] m13 Q) ∧ (r12 = x6 → Wq g (d + 7) ML_arePupilsSo c n 214 [some (pO 10 8 0), some (pI x1), some (pI x2), some (pI x3), some (pI x4), some (pI x5), some (pI x6), none, none, some (pI 1)] [] m13 Q)))))))) ∧ (¬ r4 < 0 → Wq g (d + 7) ML_arePupilsSo c n 214 [some (pO 10 8 0), some (pI x1), some (pI x2), some (pI x3), some (pI x4), some (pI x5), some (pI x6), none, none, some (pI 0)] [] m5 Q)))) ∧ (x7 = 1 → Wp g (d + 6) MX4_pupil 0 [some (pO 10 8 0), some (pI x6), some (pI 9)] [] m (cI fun r15 m16 => ((r15 < 0 → Wq g (d + 7) ML_arePupilsSo c n 214 [some (pO 10 8 0), some (pI x1), some (pI x2), some (pI x3), some (pI x4), some (pI x5), some (pI x6), none, none, some (pI 0)] [] m16 Q) ∧ (¬ r15 < 0 → ((¬ x7 = 2 → Wq g (d + 7) ML_arePupilsSo c n 214 [some (pO 10 8 0), some (pI x1), some (pI x2), some (pI x3), some (pI x4), some (pI x5), some (pI x6), none, none, some (pI 1)] [] m16 Q) ∧ (x7 = 2 → Wp g (d + 6) MX4_pupil 0 [some (pO 10 8 0), some (pI x6), some (pI 7)] [] m16 (cI fun r19 m20 => Wp g (d + 6) MX4_pupil 0 [some (pO 10 8 0), some (pI x6), some (pI 6)] [] m20 (cI fun r21 m22 => Wp g (d + 6) MX4_slot 0 [some (pO 10 8 0), some (pI r19), some (pI x8), some (pI r21)] [] m22 (cI fun r23 m24 => ((¬ r23 = x6 → Wq g (d + 7) ML_arePupilsSo c n 214 [some (pO 10 8 0), some (pI x1), some (pI x2), some (pI x3), some (pI x4), some (pI x5), some (pI x6), none, none, some (pI 0)] [] m24 Q) ∧ (r23 = x6 → Wq g (d + 7) ML_arePupilsSo c n 214 [some (pO 10 8 0), some (pI x1), some (pI x2), some (pI x3), some (pI x4), some (pI x5), some (pI x6), none, none, some (pI 1)] [] m24 Q))))))))))))) ∧ (¬ x8 < 0 → Wq g (d + 7) ML_arePupilsSo c n 214 [some (pO 10 8 0), some (pI x1), some (pI x2), some (pI x3), some (pI x4), some (pI x5), some (pI x6), none, none, some (pI 0)] [] m Q))) ∧ (x7 = 2 → ((x8 < 0 → Wq g (d + 7) ML_arePupilsSo c n 214 [some (pO 10 8 0), some (pI x1), some (pI x2), some (pI x3), some (pI x4), some (pI x5), some (pI x6), none, none, some (pI 0)] [] m Q) ∧ (¬ x8 < 0 → ((¬ x7 = 1 → Wp g (d + 6) MX4_pupil 0 [some (pO 10 8 0), some (pI x6), some (pI 9)] [] m (cI fun r28 m29 => ((r28 < 0 → ((¬ x7 = 2 → Wq g (d + 7) ML_arePupilsSo c n 214 [some (pO 10 8 0), some (pI x1), some (pI x2), some (pI x3), some (pI x4), some (pI x5), some (pI x6), none, none, some (pI 1)] [] m29 Q) ∧ (x7 = 2 → Wp g (d + 6) MX4_pupil 0 [some (pO 10 8 0), some (pI x6), some (pI 7)] [] m29 (cI fun r32 m33 => Wp g (d + 6) MX4_pupil 0 [some (pO 10 8 0), some (pI x6), some (pI 6)] [] m33 (cI fun r34 m35 => Wp g (d + 6) MX4_slot 0 [some (pO 10 8 0), some (pI r32), some (pI x8), some (pI r34)] [] m35 (cI fun r36 m37 => ((¬ r36 = x6 → Wq g (d + 7) ML_arePupilsSo c n 214 [some (pO 10 8 0), some (pI x1), some (pI x2), some (pI x3), some (pI x4), some (pI x5), some (pI x6), none, none, some (pI 0)] [] m37 Q) ∧ (r36 = x6 → Wq g (d + 7) ML_arePupilsSo c n 214 [some (pO 10 8 0), some (pI x1), some (pI x2), some (pI x3), some (pI x4), some (pI x5), some (pI x6), none, none, some (pI 1)] [] m37 Q)))))))) ∧ (¬ r28 < 0 → Wq g (d + 7) ML_arePupilsSo c n 214 [some (pO 10 8 0), some (pI x1), some (pI x2), some (pI x3), some (pI x4), some (pI x5), some (pI x6), none, none, some (pI 0)] [] m29 Q)))) ∧ (x7 = 1 → Wp g (d + 6) MX4_pupil 0 [some (pO 10 8 0), some (pI x6), some (pI 9)] [] m (cI fun r39 m40 => ((r39 < 0 → Wq g (d + 7) ML_arePupilsSo c n 214 [some (pO 10 8 0), some (pI x1), some (pI x2), some (pI x3), some (pI x4), some (pI x5), some (pI x6), none, none, some (pI 0)] [] m40 Q) ∧ (¬ r39 < 0 → ((¬ x7 = 2 → Wq g (d + 7) ML_arePupilsSo c n 214 [some (pO 10 8 0), some (pI x1), some (pI x2), some (pI x3), some (pI x4), some (pI x5), some (pI x6), none, none, some (pI 1)] [] m40 Q) ∧ (x7 = 2 → Wp g (d + 6) MX4_pupil 0 [some (pO 10 8 0), some (pI x6), some (pI 7)] [] m40 (cI fun r43 m44 => Wp g (d + 6) MX4_pupil 0 [some (pO 10 8 0), some (pI x6), some (pI 6)] [] m44 (cI fun r45 m46 => Wp g (d + 6) MX4_slot 0 [some (pO 10 8 0), some (pI r43), some (pI x8), some (pI r45)] [] m46 (cI fun r47 m48 => ((¬ r47 = x6 → Wq g (d + 7) ML_arePupilsSo c n 214 [some (pO 10 8 0), some (pI x1), some (pI x2), some (pI x3), some (pI x4), some (pI x5), some (pI x6), none, none, some (pI 0)] [] m48 Q) ∧ (r47 = x6 → Wq g (d + 7) ML_arePupilsSo c n 214 [some (pO 10 8 0), some (pI x1), some (pI x2), some (pI x3), some (pI x4), some (pI x5), some (pI x6), none, none, some (pI 1)] [] m48 Q))))))))))))))))) : Wq g (d + 7) ML_arePupilsSo c n 120 [some (pO 10 8 0), some (pI x1), some (pI x2), some (pI x3), some (pI x4), some (pI x5), some (pI x6), some (pI x7), some (pI x8), none] [] m Q := by
  refine Wq.iload (x := x7) dL_arePupilsSo_120 rfl ?_
  refine Wq.iconst (v := 2) dL_arePupilsSo_122 (by decide) ?_
  refine Wq.icmpne (tgt := 130) dL_arePupilsSo_123 (by decide) (fun q1 => ?_) (fun q1 => ?_)
  · replace h := h.1 q1
    refine Wq.iconst (v := 0) dL_arePupilsSo_130 (by decide) ?_
    refine Wq.iload (x := x8) dL_arePupilsSo_131 rfl ?_
    refine Wq.iflt (tgt := 140) dL_arePupilsSo_133 (by decide) (fun q2 => ?_) (fun q2 => ?_)
    · replace h := h.1 q2
      refine Wq.iconst (v := 0) dL_arePupilsSo_140 (by decide) ?_
      refine Wq.icmpne (tgt := 211) dL_arePupilsSo_141 (by decide) (fun q9 => absurd q9 (by decide)) (fun _ => ?_)
      refine Wq.iload (x := x7) dL_arePupilsSo_144 rfl ?_
      refine Wq.iconst (v := 1) dL_arePupilsSo_146 (by decide) ?_
      refine Wq.icmpne (tgt := 154) dL_arePupilsSo_147 (by decide) (fun q3 => ?_) (fun q3 => ?_)
      · replace h := h.1 q3
        refine Wq.iconst (v := 0) dL_arePupilsSo_154 (by decide) ?_
        refine Wq.aload_n (t := 10) (r := 8) (j := 0) dL_arePupilsSo_155 rfl ?_
        refine Wq.iload (x := x6) dL_arePupilsSo_156 rfl ?_
        refine Wq.bipush (v := 9) dL_arePupilsSo_158 (by decide) ?_
        refine Wq.callVI (As := [pI x6, pI 9]) dL_arePupilsSo_160 fX4_pupil ml_L_20 rfl (by decide) rfl (Nat.le_of_ble_eq_true rfl) (Nat.le_of_ble_eq_true rfl) h (fun r4 m5 h => ?_)
        refine Wq.iflt (tgt := 170) dL_arePupilsSo_163 (by decide) (fun q6 => ?_) (fun q6 => ?_)
        · replace h := h.1 q6
          refine Wq.iconst (v := 0) dL_arePupilsSo_170 (by decide) ?_
          refine Wq.icmpne (tgt := 211) dL_arePupilsSo_171 (by decide) (fun q9 => absurd q9 (by decide)) (fun _ => ?_)
          refine Wq.iload (x := x7) dL_arePupilsSo_174 rfl ?_
          refine Wq.iconst (v := 2) dL_arePupilsSo_176 (by decide) ?_
          refine Wq.icmpne (tgt := 207) dL_arePupilsSo_177 (by decide) (fun q7 => ?_) (fun q7 => ?_)
          · replace h := h.1 q7
            refine Wq.iconst (v := 1) dL_arePupilsSo_207 (by decide) ?_
            refine Wq.goto (tgt := 212) dL_arePupilsSo_208 (by decide) ?_
            refine Wq.istore (ls2 := [some (pO 10 8 0), some (pI x1), some (pI x2), some (pI x3), some (pI x4), some (pI x5), some (pI x6), some (pI x7), some (pI x8), some (pI 1)]) dL_arePupilsSo_212 (by decide) rfl ?_
            refine Wq.few (ls' := [some (pO 10 8 0), some (pI x1), some (pI x2), some (pI x3), some (pI x4), some (pI x5), some (pI x6), none, none, some (pI 1)]) ⟨rfl, ⟨rfl, ⟨rfl, ⟨rfl, ⟨rfl, ⟨rfl, ⟨rfl, ⟨rfl, trivial⟩⟩⟩⟩⟩⟩⟩⟩ ?_
            exact h
          · replace h := h.2 q7
            refine Wq.aload_n (t := 10) (r := 8) (j := 0) dL_arePupilsSo_180 rfl ?_
            refine Wq.aload_n (t := 10) (r := 8) (j := 0) dL_arePupilsSo_181 rfl ?_
            refine Wq.iload (x := x6) dL_arePupilsSo_182 rfl ?_
            refine Wq.bipush (v := 7) dL_arePupilsSo_184 (by decide) ?_
            refine Wq.callVI (As := [pI x6, pI 7]) dL_arePupilsSo_186 fX4_pupil ml_L_20 rfl (by decide) rfl (Nat.le_of_ble_eq_true rfl) (Nat.le_of_ble_eq_true rfl) h (fun r8 m9 h => ?_)
            refine Wq.iload (x := x8) dL_arePupilsSo_189 rfl ?_
            refine Wq.aload_n (t := 10) (r := 8) (j := 0) dL_arePupilsSo_191 rfl ?_
            refine Wq.iload (x := x6) dL_arePupilsSo_192 rfl ?_
            refine Wq.bipush (v := 6) dL_arePupilsSo_194 (by decide) ?_
            refine Wq.callVI (As := [pI x6, pI 6]) dL_arePupilsSo_196 fX4_pupil ml_L_20 rfl (by decide) rfl (Nat.le_of_ble_eq_true rfl) (Nat.le_of_ble_eq_true rfl) h (fun r10 m11 h => ?_)
            refine Wq.callVI (As := [pI r8, pI x8, pI r10]) dL_arePupilsSo_199 fX4_slot ml_L_49 rfl (by decide) rfl (Nat.le_of_ble_eq_true rfl) (Nat.le_of_ble_eq_true rfl) h (fun r12 m13 h => ?_)
            refine Wq.iload (x := x6) dL_arePupilsSo_202 rfl ?_
            refine Wq.icmpne (tgt := 211) dL_arePupilsSo_204 (by decide) (fun q14 => ?_) (fun q14 => ?_)
            · replace h := h.1 q14
              refine Wq.iconst (v := 0) dL_arePupilsSo_211 (by decide) ?_
              refine Wq.istore (ls2 := [some (pO 10 8 0), some (pI x1), some (pI x2), some (pI x3), some (pI x4), some (pI x5), some (pI x6), some (pI x7), some (pI x8), some (pI 0)]) dL_arePupilsSo_212 (by decide) rfl ?_
              refine Wq.few (ls' := [some (pO 10 8 0), some (pI x1), some (pI x2), some (pI x3), some (pI x4), some (pI x5), some (pI x6), none, none, some (pI 0)]) ⟨rfl, ⟨rfl, ⟨rfl, ⟨rfl, ⟨rfl, ⟨rfl, ⟨rfl, ⟨rfl, trivial⟩⟩⟩⟩⟩⟩⟩⟩ ?_
              exact h
            · replace h := h.2 q14
              refine Wq.iconst (v := 1) dL_arePupilsSo_207 (by decide) ?_
              refine Wq.goto (tgt := 212) dL_arePupilsSo_208 (by decide) ?_
              refine Wq.istore (ls2 := [some (pO 10 8 0), some (pI x1), some (pI x2), some (pI x3), some (pI x4), some (pI x5), some (pI x6), some (pI x7), some (pI x8), some (pI 1)]) dL_arePupilsSo_212 (by decide) rfl ?_
              refine Wq.few (ls' := [some (pO 10 8 0), some (pI x1), some (pI x2), some (pI x3), some (pI x4), some (pI x5), some (pI x6), none, none, some (pI 1)]) ⟨rfl, ⟨rfl, ⟨rfl, ⟨rfl, ⟨rfl, ⟨rfl, ⟨rfl, ⟨rfl, trivial⟩⟩⟩⟩⟩⟩⟩⟩ ?_
              exact h
        · replace h := h.2 q6
          refine Wq.iconst (v := 1) dL_arePupilsSo_166 (by decide) ?_
          refine Wq.goto (tgt := 171) dL_arePupilsSo_167 (by decide) ?_
          refine Wq.icmpne (tgt := 211) dL_arePupilsSo_171 (by decide) (fun _ => ?_) (fun q9 => absurd q9 (by decide))
          refine Wq.iconst (v := 0) dL_arePupilsSo_211 (by decide) ?_
          refine Wq.istore (ls2 := [some (pO 10 8 0), some (pI x1), some (pI x2), some (pI x3), some (pI x4), some (pI x5), some (pI x6), some (pI x7), some (pI x8), some (pI 0)]) dL_arePupilsSo_212 (by decide) rfl ?_
          refine Wq.few (ls' := [some (pO 10 8 0), some (pI x1), some (pI x2), some (pI x3), some (pI x4), some (pI x5), some (pI x6), none, none, some (pI 0)]) ⟨rfl, ⟨rfl, ⟨rfl, ⟨rfl, ⟨rfl, ⟨rfl, ⟨rfl, ⟨rfl, trivial⟩⟩⟩⟩⟩⟩⟩⟩ ?_
          exact h
      · replace h := h.2 q3
        refine Wq.iconst (v := 1) dL_arePupilsSo_150 (by decide) ?_
        refine Wq.goto (tgt := 155) dL_arePupilsSo_151 (by decide) ?_
        refine Wq.aload_n (t := 10) (r := 8) (j := 0) dL_arePupilsSo_155 rfl ?_
        refine Wq.iload (x := x6) dL_arePupilsSo_156 rfl ?_
        refine Wq.bipush (v := 9) dL_arePupilsSo_158 (by decide) ?_
        refine Wq.callVI (As := [pI x6, pI 9]) dL_arePupilsSo_160 fX4_pupil ml_L_20 rfl (by decide) rfl (Nat.le_of_ble_eq_true rfl) (Nat.le_of_ble_eq_true rfl) h (fun r15 m16 h => ?_)
        refine Wq.iflt (tgt := 170) dL_arePupilsSo_163 (by decide) (fun q17 => ?_) (fun q17 => ?_)
        · replace h := h.1 q17
          refine Wq.iconst (v := 0) dL_arePupilsSo_170 (by decide) ?_
          refine Wq.icmpne (tgt := 211) dL_arePupilsSo_171 (by decide) (fun _ => ?_) (fun q9 => absurd q9 (by decide))
          refine Wq.iconst (v := 0) dL_arePupilsSo_211 (by decide) ?_
          refine Wq.istore (ls2 := [some (pO 10 8 0), some (pI x1), some (pI x2), some (pI x3), some (pI x4), some (pI x5), some (pI x6), some (pI x7), some (pI x8), some (pI 0)]) dL_arePupilsSo_212 (by decide) rfl ?_
          refine Wq.few (ls' := [some (pO 10 8 0), some (pI x1), some (pI x2), some (pI x3), some (pI x4), some (pI x5), some (pI x6), none, none, some (pI 0)]) ⟨rfl, ⟨rfl, ⟨rfl, ⟨rfl, ⟨rfl, ⟨rfl, ⟨rfl, ⟨rfl, trivial⟩⟩⟩⟩⟩⟩⟩⟩ ?_
          exact h
        · replace h := h.2 q17
          refine Wq.iconst (v := 1) dL_arePupilsSo_166 (by decide) ?_
          refine Wq.goto (tgt := 171) dL_arePupilsSo_167 (by decide) ?_
          refine Wq.icmpne (tgt := 211) dL_arePupilsSo_171 (by decide) (fun q9 => absurd q9 (by decide)) (fun _ => ?_)
          refine Wq.iload (x := x7) dL_arePupilsSo_174 rfl ?_
          refine Wq.iconst (v := 2) dL_arePupilsSo_176 (by decide) ?_
          refine Wq.icmpne (tgt := 207) dL_arePupilsSo_177 (by decide) (fun q18 => ?_) (fun q18 => ?_)
          · replace h := h.1 q18
            refine Wq.iconst (v := 1) dL_arePupilsSo_207 (by decide) ?_
            refine Wq.goto (tgt := 212) dL_arePupilsSo_208 (by decide) ?_
            refine Wq.istore (ls2 := [some (pO 10 8 0), some (pI x1), some (pI x2), some (pI x3), some (pI x4), some (pI x5), some (pI x6), some (pI x7), some (pI x8), some (pI 1)]) dL_arePupilsSo_212 (by decide) rfl ?_
            refine Wq.few (ls' := [some (pO 10 8 0), some (pI x1), some (pI x2), some (pI x3), some (pI x4), some (pI x5), some (pI x6), none, none, some (pI 1)]) ⟨rfl, ⟨rfl, ⟨rfl, ⟨rfl, ⟨rfl, ⟨rfl, ⟨rfl, ⟨rfl, trivial⟩⟩⟩⟩⟩⟩⟩⟩ ?_
            exact h
          · replace h := h.2 q18
            refine Wq.aload_n (t := 10) (r := 8) (j := 0) dL_arePupilsSo_180 rfl ?_
            refine Wq.aload_n (t := 10) (r := 8) (j := 0) dL_arePupilsSo_181 rfl ?_
            refine Wq.iload (x := x6) dL_arePupilsSo_182 rfl ?_
            refine Wq.bipush (v := 7) dL_arePupilsSo_184 (by decide) ?_
            refine Wq.callVI (As := [pI x6, pI 7]) dL_arePupilsSo_186 fX4_pupil ml_L_20 rfl (by decide) rfl (Nat.le_of_ble_eq_true rfl) (Nat.le_of_ble_eq_true rfl) h (fun r19 m20 h => ?_)
            refine Wq.iload (x := x8) dL_arePupilsSo_189 rfl ?_
            refine Wq.aload_n (t := 10) (r := 8) (j := 0) dL_arePupilsSo_191 rfl ?_
            refine Wq.iload (x := x6) dL_arePupilsSo_192 rfl ?_
            refine Wq.bipush (v := 6) dL_arePupilsSo_194 (by decide) ?_
            refine Wq.callVI (As := [pI x6, pI 6]) dL_arePupilsSo_196 fX4_pupil ml_L_20 rfl (by decide) rfl (Nat.le_of_ble_eq_true rfl) (Nat.le_of_ble_eq_true rfl) h (fun r21 m22 h => ?_)
            refine Wq.callVI (As := [pI r19, pI x8, pI r21]) dL_arePupilsSo_199 fX4_slot ml_L_49 rfl (by decide) rfl (Nat.le_of_ble_eq_true rfl) (Nat.le_of_ble_eq_true rfl) h (fun r23 m24 h => ?_)
            refine Wq.iload (x := x6) dL_arePupilsSo_202 rfl ?_
            refine Wq.icmpne (tgt := 211) dL_arePupilsSo_204 (by decide) (fun q25 => ?_) (fun q25 => ?_)
            · replace h := h.1 q25
              refine Wq.iconst (v := 0) dL_arePupilsSo_211 (by decide) ?_
              refine Wq.istore (ls2 := [some (pO 10 8 0), some (pI x1), some (pI x2), some (pI x3), some (pI x4), some (pI x5), some (pI x6), some (pI x7), some (pI x8), some (pI 0)]) dL_arePupilsSo_212 (by decide) rfl ?_
              refine Wq.few (ls' := [some (pO 10 8 0), some (pI x1), some (pI x2), some (pI x3), some (pI x4), some (pI x5), some (pI x6), none, none, some (pI 0)]) ⟨rfl, ⟨rfl, ⟨rfl, ⟨rfl, ⟨rfl, ⟨rfl, ⟨rfl, ⟨rfl, trivial⟩⟩⟩⟩⟩⟩⟩⟩ ?_
              exact h
            · replace h := h.2 q25
              refine Wq.iconst (v := 1) dL_arePupilsSo_207 (by decide) ?_
              refine Wq.goto (tgt := 212) dL_arePupilsSo_208 (by decide) ?_
              refine Wq.istore (ls2 := [some (pO 10 8 0), some (pI x1), some (pI x2), some (pI x3), some (pI x4), some (pI x5), some (pI x6), some (pI x7), some (pI x8), some (pI 1)]) dL_arePupilsSo_212 (by decide) rfl ?_
              refine Wq.few (ls' := [some (pO 10 8 0), some (pI x1), some (pI x2), some (pI x3), some (pI x4), some (pI x5), some (pI x6), none, none, some (pI 1)]) ⟨rfl, ⟨rfl, ⟨rfl, ⟨rfl, ⟨rfl, ⟨rfl, ⟨rfl, ⟨rfl, trivial⟩⟩⟩⟩⟩⟩⟩⟩ ?_
              exact h
    · replace h := h.2 q2
      refine Wq.iconst (v := 1) dL_arePupilsSo_136 (by decide) ?_
      refine Wq.goto (tgt := 141) dL_arePupilsSo_137 (by decide) ?_
      refine Wq.icmpne (tgt := 211) dL_arePupilsSo_141 (by decide) (fun _ => ?_) (fun q9 => absurd q9 (by decide))
      refine Wq.iconst (v := 0) dL_arePupilsSo_211 (by decide) ?_
      refine Wq.istore (ls2 := [some (pO 10 8 0), some (pI x1), some (pI x2), some (pI x3), some (pI x4), some (pI x5), some (pI x6), some (pI x7), some (pI x8), some (pI 0)]) dL_arePupilsSo_212 (by decide) rfl ?_
      refine Wq.few (ls' := [some (pO 10 8 0), some (pI x1), some (pI x2), some (pI x3), some (pI x4), some (pI x5), some (pI x6), none, none, some (pI 0)]) ⟨rfl, ⟨rfl, ⟨rfl, ⟨rfl, ⟨rfl, ⟨rfl, ⟨rfl, ⟨rfl, trivial⟩⟩⟩⟩⟩⟩⟩⟩ ?_
      exact h
  · replace h := h.2 q1
    refine Wq.iconst (v := 1) dL_arePupilsSo_126 (by decide) ?_
    refine Wq.goto (tgt := 131) dL_arePupilsSo_127 (by decide) ?_
    refine Wq.iload (x := x8) dL_arePupilsSo_131 rfl ?_
    refine Wq.iflt (tgt := 140) dL_arePupilsSo_133 (by decide) (fun q26 => ?_) (fun q26 => ?_)
    · replace h := h.1 q26
      refine Wq.iconst (v := 0) dL_arePupilsSo_140 (by decide) ?_
      refine Wq.icmpne (tgt := 211) dL_arePupilsSo_141 (by decide) (fun _ => ?_) (fun q9 => absurd q9 (by decide))
      refine Wq.iconst (v := 0) dL_arePupilsSo_211 (by decide) ?_
      refine Wq.istore (ls2 := [some (pO 10 8 0), some (pI x1), some (pI x2), some (pI x3), some (pI x4), some (pI x5), some (pI x6), some (pI x7), some (pI x8), some (pI 0)]) dL_arePupilsSo_212 (by decide) rfl ?_
      refine Wq.few (ls' := [some (pO 10 8 0), some (pI x1), some (pI x2), some (pI x3), some (pI x4), some (pI x5), some (pI x6), none, none, some (pI 0)]) ⟨rfl, ⟨rfl, ⟨rfl, ⟨rfl, ⟨rfl, ⟨rfl, ⟨rfl, ⟨rfl, trivial⟩⟩⟩⟩⟩⟩⟩⟩ ?_
      exact h
    · replace h := h.2 q26
      refine Wq.iconst (v := 1) dL_arePupilsSo_136 (by decide) ?_
      refine Wq.goto (tgt := 141) dL_arePupilsSo_137 (by decide) ?_
      refine Wq.icmpne (tgt := 211) dL_arePupilsSo_141 (by decide) (fun q9 => absurd q9 (by decide)) (fun _ => ?_)
      refine Wq.iload (x := x7) dL_arePupilsSo_144 rfl ?_
      refine Wq.iconst (v := 1) dL_arePupilsSo_146 (by decide) ?_
      refine Wq.icmpne (tgt := 154) dL_arePupilsSo_147 (by decide) (fun q27 => ?_) (fun q27 => ?_)
      · replace h := h.1 q27
        refine Wq.iconst (v := 0) dL_arePupilsSo_154 (by decide) ?_
        refine Wq.aload_n (t := 10) (r := 8) (j := 0) dL_arePupilsSo_155 rfl ?_
        refine Wq.iload (x := x6) dL_arePupilsSo_156 rfl ?_
        refine Wq.bipush (v := 9) dL_arePupilsSo_158 (by decide) ?_
        refine Wq.callVI (As := [pI x6, pI 9]) dL_arePupilsSo_160 fX4_pupil ml_L_20 rfl (by decide) rfl (Nat.le_of_ble_eq_true rfl) (Nat.le_of_ble_eq_true rfl) h (fun r28 m29 h => ?_)
        refine Wq.iflt (tgt := 170) dL_arePupilsSo_163 (by decide) (fun q30 => ?_) (fun q30 => ?_)
        · replace h := h.1 q30
          refine Wq.iconst (v := 0) dL_arePupilsSo_170 (by decide) ?_
          refine Wq.icmpne (tgt := 211) dL_arePupilsSo_171 (by decide) (fun q9 => absurd q9 (by decide)) (fun _ => ?_)
          refine Wq.iload (x := x7) dL_arePupilsSo_174 rfl ?_
          refine Wq.iconst (v := 2) dL_arePupilsSo_176 (by decide) ?_
          refine Wq.icmpne (tgt := 207) dL_arePupilsSo_177 (by decide) (fun q31 => ?_) (fun q31 => ?_)
          · replace h := h.1 q31
            refine Wq.iconst (v := 1) dL_arePupilsSo_207 (by decide) ?_
            refine Wq.goto (tgt := 212) dL_arePupilsSo_208 (by decide) ?_
            refine Wq.istore (ls2 := [some (pO 10 8 0), some (pI x1), some (pI x2), some (pI x3), some (pI x4), some (pI x5), some (pI x6), some (pI x7), some (pI x8), some (pI 1)]) dL_arePupilsSo_212 (by decide) rfl ?_
            refine Wq.few (ls' := [some (pO 10 8 0), some (pI x1), some (pI x2), some (pI x3), some (pI x4), some (pI x5), some (pI x6), none, none, some (pI 1)]) ⟨rfl, ⟨rfl, ⟨rfl, ⟨rfl, ⟨rfl, ⟨rfl, ⟨rfl, ⟨rfl, trivial⟩⟩⟩⟩⟩⟩⟩⟩ ?_
            exact h
          · replace h := h.2 q31
            refine Wq.aload_n (t := 10) (r := 8) (j := 0) dL_arePupilsSo_180 rfl ?_
            refine Wq.aload_n (t := 10) (r := 8) (j := 0) dL_arePupilsSo_181 rfl ?_
            refine Wq.iload (x := x6) dL_arePupilsSo_182 rfl ?_
            refine Wq.bipush (v := 7) dL_arePupilsSo_184 (by decide) ?_
            refine Wq.callVI (As := [pI x6, pI 7]) dL_arePupilsSo_186 fX4_pupil ml_L_20 rfl (by decide) rfl (Nat.le_of_ble_eq_true rfl) (Nat.le_of_ble_eq_true rfl) h (fun r32 m33 h => ?_)
            refine Wq.iload (x := x8) dL_arePupilsSo_189 rfl ?_
            refine Wq.aload_n (t := 10) (r := 8) (j := 0) dL_arePupilsSo_191 rfl ?_
            refine Wq.iload (x := x6) dL_arePupilsSo_192 rfl ?_
            refine Wq.bipush (v := 6) dL_arePupilsSo_194 (by decide) ?_
            refine Wq.callVI (As := [pI x6, pI 6]) dL_arePupilsSo_196 fX4_pupil ml_L_20 rfl (by decide) rfl (Nat.le_of_ble_eq_true rfl) (Nat.le_of_ble_eq_true rfl) h (fun r34 m35 h => ?_)
            refine Wq.callVI (As := [pI r32, pI x8, pI r34]) dL_arePupilsSo_199 fX4_slot ml_L_49 rfl (by decide) rfl (Nat.le_of_ble_eq_true rfl) (Nat.le_of_ble_eq_true rfl) h (fun r36 m37 h => ?_)
            refine Wq.iload (x := x6) dL_arePupilsSo_202 rfl ?_
            refine Wq.icmpne (tgt := 211) dL_arePupilsSo_204 (by decide) (fun q38 => ?_) (fun q38 => ?_)
            · replace h := h.1 q38
              refine Wq.iconst (v := 0) dL_arePupilsSo_211 (by decide) ?_
              refine Wq.istore (ls2 := [some (pO 10 8 0), some (pI x1), some (pI x2), some (pI x3), some (pI x4), some (pI x5), some (pI x6), some (pI x7), some (pI x8), some (pI 0)]) dL_arePupilsSo_212 (by decide) rfl ?_
              refine Wq.few (ls' := [some (pO 10 8 0), some (pI x1), some (pI x2), some (pI x3), some (pI x4), some (pI x5), some (pI x6), none, none, some (pI 0)]) ⟨rfl, ⟨rfl, ⟨rfl, ⟨rfl, ⟨rfl, ⟨rfl, ⟨rfl, ⟨rfl, trivial⟩⟩⟩⟩⟩⟩⟩⟩ ?_
              exact h
            · replace h := h.2 q38
              refine Wq.iconst (v := 1) dL_arePupilsSo_207 (by decide) ?_
              refine Wq.goto (tgt := 212) dL_arePupilsSo_208 (by decide) ?_
              refine Wq.istore (ls2 := [some (pO 10 8 0), some (pI x1), some (pI x2), some (pI x3), some (pI x4), some (pI x5), some (pI x6), some (pI x7), some (pI x8), some (pI 1)]) dL_arePupilsSo_212 (by decide) rfl ?_
              refine Wq.few (ls' := [some (pO 10 8 0), some (pI x1), some (pI x2), some (pI x3), some (pI x4), some (pI x5), some (pI x6), none, none, some (pI 1)]) ⟨rfl, ⟨rfl, ⟨rfl, ⟨rfl, ⟨rfl, ⟨rfl, ⟨rfl, ⟨rfl, trivial⟩⟩⟩⟩⟩⟩⟩⟩ ?_
              exact h
        · replace h := h.2 q30
          refine Wq.iconst (v := 1) dL_arePupilsSo_166 (by decide) ?_
          refine Wq.goto (tgt := 171) dL_arePupilsSo_167 (by decide) ?_
          refine Wq.icmpne (tgt := 211) dL_arePupilsSo_171 (by decide) (fun _ => ?_) (fun q9 => absurd q9 (by decide))
          refine Wq.iconst (v := 0) dL_arePupilsSo_211 (by decide) ?_
          refine Wq.istore (ls2 := [some (pO 10 8 0), some (pI x1), some (pI x2), some (pI x3), some (pI x4), some (pI x5), some (pI x6), some (pI x7), some (pI x8), some (pI 0)]) dL_arePupilsSo_212 (by decide) rfl ?_
          refine Wq.few (ls' := [some (pO 10 8 0), some (pI x1), some (pI x2), some (pI x3), some (pI x4), some (pI x5), some (pI x6), none, none, some (pI 0)]) ⟨rfl, ⟨rfl, ⟨rfl, ⟨rfl, ⟨rfl, ⟨rfl, ⟨rfl, ⟨rfl, trivial⟩⟩⟩⟩⟩⟩⟩⟩ ?_
          exact h
      · replace h := h.2 q27
        refine Wq.iconst (v := 1) dL_arePupilsSo_150 (by decide) ?_
        refine Wq.goto (tgt := 155) dL_arePupilsSo_151 (by decide) ?_
        refine Wq.aload_n (t := 10) (r := 8) (j := 0) dL_arePupilsSo_155 rfl ?_
        refine Wq.iload (x := x6) dL_arePupilsSo_156 rfl ?_
        refine Wq.bipush (v := 9) dL_arePupilsSo_158 (by decide) ?_
        refine Wq.callVI (As := [pI x6, pI 9]) dL_arePupilsSo_160 fX4_pupil ml_L_20 rfl (by decide) rfl (Nat.le_of_ble_eq_true rfl) (Nat.le_of_ble_eq_true rfl) h (fun r39 m40 h => ?_)
        refine Wq.iflt (tgt := 170) dL_arePupilsSo_163 (by decide) (fun q41 => ?_) (fun q41 => ?_)
        · replace h := h.1 q41
          refine Wq.iconst (v := 0) dL_arePupilsSo_170 (by decide) ?_
          refine Wq.icmpne (tgt := 211) dL_arePupilsSo_171 (by decide) (fun _ => ?_) (fun q9 => absurd q9 (by decide))
          refine Wq.iconst (v := 0) dL_arePupilsSo_211 (by decide) ?_
          refine Wq.istore (ls2 := [some (pO 10 8 0), some (pI x1), some (pI x2), some (pI x3), some (pI x4), some (pI x5), some (pI x6), some (pI x7), some (pI x8), some (pI 0)]) dL_arePupilsSo_212 (by decide) rfl ?_
          refine Wq.few (ls' := [some (pO 10 8 0), some (pI x1), some (pI x2), some (pI x3), some (pI x4), some (pI x5), some (pI x6), none, none, some (pI 0)]) ⟨rfl, ⟨rfl, ⟨rfl, ⟨rfl, ⟨rfl, ⟨rfl, ⟨rfl, ⟨rfl, trivial⟩⟩⟩⟩⟩⟩⟩⟩ ?_
          exact h
        · replace h := h.2 q41
          refine Wq.iconst (v := 1) dL_arePupilsSo_166 (by decide) ?_
          refine Wq.goto (tgt := 171) dL_arePupilsSo_167 (by decide) ?_
          refine Wq.icmpne (tgt := 211) dL_arePupilsSo_171 (by decide) (fun q9 => absurd q9 (by decide)) (fun _ => ?_)
          refine Wq.iload (x := x7) dL_arePupilsSo_174 rfl ?_
          refine Wq.iconst (v := 2) dL_arePupilsSo_176 (by decide) ?_
          refine Wq.icmpne (tgt := 207) dL_arePupilsSo_177 (by decide) (fun q42 => ?_) (fun q42 => ?_)
          · replace h := h.1 q42
            refine Wq.iconst (v := 1) dL_arePupilsSo_207 (by decide) ?_
            refine Wq.goto (tgt := 212) dL_arePupilsSo_208 (by decide) ?_
            refine Wq.istore (ls2 := [some (pO 10 8 0), some (pI x1), some (pI x2), some (pI x3), some (pI x4), some (pI x5), some (pI x6), some (pI x7), some (pI x8), some (pI 1)]) dL_arePupilsSo_212 (by decide) rfl ?_
            refine Wq.few (ls' := [some (pO 10 8 0), some (pI x1), some (pI x2), some (pI x3), some (pI x4), some (pI x5), some (pI x6), none, none, some (pI 1)]) ⟨rfl, ⟨rfl, ⟨rfl, ⟨rfl, ⟨rfl, ⟨rfl, ⟨rfl, ⟨rfl, trivial⟩⟩⟩⟩⟩⟩⟩⟩ ?_
            exact h
          · replace h := h.2 q42
            refine Wq.aload_n (t := 10) (r := 8) (j := 0) dL_arePupilsSo_180 rfl ?_
            refine Wq.aload_n (t := 10) (r := 8) (j := 0) dL_arePupilsSo_181 rfl ?_
            refine Wq.iload (x := x6) dL_arePupilsSo_182 rfl ?_
            refine Wq.bipush (v := 7) dL_arePupilsSo_184 (by decide) ?_
            refine Wq.callVI (As := [pI x6, pI 7]) dL_arePupilsSo_186 fX4_pupil ml_L_20 rfl (by decide) rfl (Nat.le_of_ble_eq_true rfl) (Nat.le_of_ble_eq_true rfl) h (fun r43 m44 h => ?_)
            refine Wq.iload (x := x8) dL_arePupilsSo_189 rfl ?_
            refine Wq.aload_n (t := 10) (r := 8) (j := 0) dL_arePupilsSo_191 rfl ?_
            refine Wq.iload (x := x6) dL_arePupilsSo_192 rfl ?_
            refine Wq.bipush (v := 6) dL_arePupilsSo_194 (by decide) ?_
            refine Wq.callVI (As := [pI x6, pI 6]) dL_arePupilsSo_196 fX4_pupil ml_L_20 rfl (by decide) rfl (Nat.le_of_ble_eq_true rfl) (Nat.le_of_ble_eq_true rfl) h (fun r45 m46 h => ?_)
            refine Wq.callVI (As := [pI r43, pI x8, pI r45]) dL_arePupilsSo_199 fX4_slot ml_L_49 rfl (by decide) rfl (Nat.le_of_ble_eq_true rfl) (Nat.le_of_ble_eq_true rfl) h (fun r47 m48 h => ?_)
            refine Wq.iload (x := x6) dL_arePupilsSo_202 rfl ?_
            refine Wq.icmpne (tgt := 211) dL_arePupilsSo_204 (by decide) (fun q49 => ?_) (fun q49 => ?_)
            · replace h := h.1 q49
              refine Wq.iconst (v := 0) dL_arePupilsSo_211 (by decide) ?_
              refine Wq.istore (ls2 := [some (pO 10 8 0), some (pI x1), some (pI x2), some (pI x3), some (pI x4), some (pI x5), some (pI x6), some (pI x7), some (pI x8), some (pI 0)]) dL_arePupilsSo_212 (by decide) rfl ?_
              refine Wq.few (ls' := [some (pO 10 8 0), some (pI x1), some (pI x2), some (pI x3), some (pI x4), some (pI x5), some (pI x6), none, none, some (pI 0)]) ⟨rfl, ⟨rfl, ⟨rfl, ⟨rfl, ⟨rfl, ⟨rfl, ⟨rfl, ⟨rfl, trivial⟩⟩⟩⟩⟩⟩⟩⟩ ?_
              exact h
            · replace h := h.2 q49
              refine Wq.iconst (v := 1) dL_arePupilsSo_207 (by decide) ?_
              refine Wq.goto (tgt := 212) dL_arePupilsSo_208 (by decide) ?_
              refine Wq.istore (ls2 := [some (pO 10 8 0), some (pI x1), some (pI x2), some (pI x3), some (pI x4), some (pI x5), some (pI x6), some (pI x7), some (pI x8), some (pI 1)]) dL_arePupilsSo_212 (by decide) rfl ?_
              refine Wq.few (ls' := [some (pO 10 8 0), some (pI x1), some (pI x2), some (pI x3), some (pI x4), some (pI x5), some (pI x6), none, none, some (pI 1)]) ⟨rfl, ⟨rfl, ⟨rfl, ⟨rfl, ⟨rfl, ⟨rfl, ⟨rfl, ⟨rfl, trivial⟩⟩⟩⟩⟩⟩⟩⟩ ?_
              exact h
set_option maxHeartbeats 4000000 in
set_option maxRecDepth 20000 in
theorem sgL_arePupilsSo_214 {g : GG} {d : Nat} {c n : Nat} {m : PM} {Q : Ou → PM → Nat → Nat → Prop} {x1 : Int32} {x2 : Int32} {x3 : Int32} {x4 : Int32} {x5 : Int32} {x6 : Int32} {x9 : Int32} (h : ((¬ x9 = 0 → Wq g (d + 7) ML_arePupilsSo c n 15 [some (pO 10 8 0), some (pI x1), some (pI x2), some (pI x3), some (pI x4), some (pI x5), some (pI (x6 + 1)), none, none, none] [] m Q) ∧ (x9 = 0 → Q (.inl (some (pI 0))) m c n))) : Wq g (d + 7) ML_arePupilsSo c n 214 [some (pO 10 8 0), some (pI x1), some (pI x2), some (pI x3), some (pI x4), some (pI x5), some (pI x6), none, none, some (pI x9)] [] m Q := by
  refine Wq.iload (x := x9) dL_arePupilsSo_214 rfl ?_
  refine Wq.ifne (tgt := 221) dL_arePupilsSo_216 (by decide) (fun q1 => ?_) (fun q1 => ?_)
  · replace h := h.1 q1
    refine Wq.iinc (x := x6) (ls2 := [some (pO 10 8 0), some (pI x1), some (pI x2), some (pI x3), some (pI x4), some (pI x5), some (pI (x6 + 1)), none, none, some (pI x9)]) dL_arePupilsSo_221 rfl (by decide) rfl ?_
    refine Wq.goto (tgt := 15) dL_arePupilsSo_224 (by decide) ?_
    refine Wq.few (ls' := [some (pO 10 8 0), some (pI x1), some (pI x2), some (pI x3), some (pI x4), some (pI x5), some (pI (x6 + 1)), none, none, none]) ⟨rfl, ⟨rfl, ⟨rfl, ⟨rfl, ⟨rfl, ⟨rfl, ⟨rfl, trivial⟩⟩⟩⟩⟩⟩⟩ ?_
    exact h
  · replace h := h.2 q1
    refine Wq.iconst (v := 0) dL_arePupilsSo_219 (by decide) ?_
    exact Wq.iret dL_arePupilsSo_220 (⟨_, rfl, by decide⟩) h
set_option maxHeartbeats 4000000 in
set_option maxRecDepth 20000 in
theorem sgL_arePupilsSo_285 {g : GG} {d : Nat} {c n : Nat} {m : PM} {Q : Ou → PM → Nat → Nat → Prop} {x6 : Int32} (h : ((x6 = 0 → Q (.inl (some (pI 0))) m c n) ∧ (¬ x6 = 0 → Wp g (d + 6) MX4_count 0 [some (pO 10 8 0), some (pI 3)] [] m (cI fun r2 m3 => Wp g (d + 6) MX4_count 0 [some (pO 10 8 0), some (pI 4)] [] m3 (cI fun r4 m5 => Wp g (d + 6) MX4_count 0 [some (pO 10 8 0), some (pI 5)] [] m5 (cI fun r6 m7 => Wp g (d + 6) MX4_count 0 [some (pO 10 8 0), some (pI 6)] [] m7 (cI fun r8 m9 => Wp g (d + 6) MX4_count 0 [some (pO 10 8 0), some (pI 2)] [] m9 (cI fun r10 m11 => ((¬ (((r2 + r4) + r6) + r8) = r10 → Q (.inl (some (pI 0))) m11 c n) ∧ ((((r2 + r4) + r6) + r8) = r10 → Q (.inl (some (pI 1))) m11 c n)))))))))) : Wq g (d + 7) ML_arePupilsSo c n 285 [some (pO 10 8 0), none, none, none, none, none, some (pI x6), none, none, none] [] m Q := by
  refine Wq.iload (x := x6) dL_arePupilsSo_285 rfl ?_
  refine Wq.ifeq (tgt := 326) dL_arePupilsSo_287 (by decide) (fun q1 => ?_) (fun q1 => ?_)
  · replace h := h.1 q1
    refine Wq.iconst (v := 0) dL_arePupilsSo_326 (by decide) ?_
    exact Wq.iret dL_arePupilsSo_327 (⟨_, rfl, by decide⟩) h
  · replace h := h.2 q1
    refine Wq.aload_n (t := 10) (r := 8) (j := 0) dL_arePupilsSo_290 rfl ?_
    refine Wq.iconst (v := 3) dL_arePupilsSo_291 (by decide) ?_
    refine Wq.callVI (As := [pI 3]) dL_arePupilsSo_292 fX4_count ml_L_8 rfl (by decide) rfl (Nat.le_of_ble_eq_true rfl) (Nat.le_of_ble_eq_true rfl) h (fun r2 m3 h => ?_)
    refine Wq.aload_n (t := 10) (r := 8) (j := 0) dL_arePupilsSo_295 rfl ?_
    refine Wq.iconst (v := 4) dL_arePupilsSo_296 (by decide) ?_
    refine Wq.callVI (As := [pI 4]) dL_arePupilsSo_297 fX4_count ml_L_8 rfl (by decide) rfl (Nat.le_of_ble_eq_true rfl) (Nat.le_of_ble_eq_true rfl) h (fun r4 m5 h => ?_)
    refine Wq.iadd dL_arePupilsSo_300 ?_
    refine Wq.aload_n (t := 10) (r := 8) (j := 0) dL_arePupilsSo_301 rfl ?_
    refine Wq.iconst (v := 5) dL_arePupilsSo_302 (by decide) ?_
    refine Wq.callVI (As := [pI 5]) dL_arePupilsSo_303 fX4_count ml_L_8 rfl (by decide) rfl (Nat.le_of_ble_eq_true rfl) (Nat.le_of_ble_eq_true rfl) h (fun r6 m7 h => ?_)
    refine Wq.iadd dL_arePupilsSo_306 ?_
    refine Wq.aload_n (t := 10) (r := 8) (j := 0) dL_arePupilsSo_307 rfl ?_
    refine Wq.bipush (v := 6) dL_arePupilsSo_308 (by decide) ?_
    refine Wq.callVI (As := [pI 6]) dL_arePupilsSo_310 fX4_count ml_L_8 rfl (by decide) rfl (Nat.le_of_ble_eq_true rfl) (Nat.le_of_ble_eq_true rfl) h (fun r8 m9 h => ?_)
    refine Wq.iadd dL_arePupilsSo_313 ?_
    refine Wq.aload_n (t := 10) (r := 8) (j := 0) dL_arePupilsSo_314 rfl ?_
    refine Wq.iconst (v := 2) dL_arePupilsSo_315 (by decide) ?_
    refine Wq.callVI (As := [pI 2]) dL_arePupilsSo_316 fX4_count ml_L_8 rfl (by decide) rfl (Nat.le_of_ble_eq_true rfl) (Nat.le_of_ble_eq_true rfl) h (fun r10 m11 h => ?_)
    refine Wq.icmpne (tgt := 326) dL_arePupilsSo_319 (by decide) (fun q12 => ?_) (fun q12 => ?_)
    · replace h := h.1 q12
      refine Wq.iconst (v := 0) dL_arePupilsSo_326 (by decide) ?_
      exact Wq.iret dL_arePupilsSo_327 (⟨_, rfl, by decide⟩) h
    · replace h := h.2 q12
      refine Wq.iconst (v := 1) dL_arePupilsSo_322 (by decide) ?_
      refine Wq.goto (tgt := 327) dL_arePupilsSo_323 (by decide) ?_
      exact Wq.iret dL_arePupilsSo_327 (⟨_, rfl, by decide⟩) h
set_option maxHeartbeats 4000000 in
set_option maxRecDepth 20000 in
theorem sgL_couldSo {g : GG} {d : Nat} {c n : Nat} {m : PM} {Q : Ou → PM → Nat → Nat → Prop} {x1 : Int32} (h : Wp g (d + 6) MX4_couldHave 0 [some (pO 10 8 0), some (pI x1)] [] m (cI fun r1 m2 => Wq g (d + 7) ML_couldSo c n 11 [some (pO 10 8 0), some (pI x1), some (pI r1), some (pI 0), some (pI 0)] [] m2 Q)) : Wq g (d + 7) ML_couldSo c n 0 [some (pO 10 8 0), some (pI x1)] [] m Q := by
  refine Wq.few (ls' := [some (pO 10 8 0), some (pI x1), none, none, none]) ⟨rfl, ⟨rfl, trivial⟩⟩ ?_
  refine Wq.aload_n (t := 10) (r := 8) (j := 0) dL_couldSo_0 rfl ?_
  refine Wq.iload_n (x := x1) dL_couldSo_1 rfl ?_
  refine Wq.callVI (As := [pI x1]) dL_couldSo_2 fX4_couldHave ml_L_68 rfl (by decide) rfl (Nat.le_of_ble_eq_true rfl) (Nat.le_of_ble_eq_true rfl) h (fun r1 m2 h => ?_)
  refine Wq.istore_n (ls2 := [some (pO 10 8 0), some (pI x1), some (pI r1), none, none]) dL_couldSo_5 (by decide) rfl ?_
  refine Wq.iconst (v := 0) dL_couldSo_6 (by decide) ?_
  refine Wq.istore_n (ls2 := [some (pO 10 8 0), some (pI x1), some (pI r1), some (pI 0), none]) dL_couldSo_7 (by decide) rfl ?_
  refine Wq.iconst (v := 0) dL_couldSo_8 (by decide) ?_
  refine Wq.istore (ls2 := [some (pO 10 8 0), some (pI x1), some (pI r1), some (pI 0), some (pI 0)]) dL_couldSo_9 (by decide) rfl ?_
  exact h
set_option maxHeartbeats 4000000 in
set_option maxRecDepth 20000 in
theorem sgL_couldSo_11 {g : GG} {d : Nat} {c n : Nat} {m : PM} {Q : Ou → PM → Nat → Nat → Prop} {x1 : Int32} {x2 : Int32} {x3 : Int32} {x4 : Int32} (h : Wp g (d + 6) MX4_count 0 [some (pO 10 8 0), some (pI 1)] [] m (cI fun r1 m2 => (((4 * r1) ≤ x4 → Wq g (d + 7) ML_couldSo c n 54 [some (pO 10 8 0), none, some (pI x2), some (pI x3), none] [] m2 Q) ∧ (¬ (4 * r1) ≤ x4 → Wp g (d + 6) MX4_slot 0 [some (pO 10 8 0), some (pI (x4 / 4)), some (pI x1), some (pI (irm x4 4))] [] m2 (cI fun r4 m5 => ((¬ r4 = (-1) → Wq g (d + 7) ML_couldSo c n 48 [some (pO 10 8 0), some (pI x1), some (pI x2), some (pI (x3 + 0)), some (pI x4)] [] m5 Q) ∧ (r4 = (-1) → Wq g (d + 7) ML_couldSo c n 48 [some (pO 10 8 0), some (pI x1), some (pI x2), some (pI (x3 + 1)), some (pI x4)] [] m5 Q))))))) : Wq g (d + 7) ML_couldSo c n 11 [some (pO 10 8 0), some (pI x1), some (pI x2), some (pI x3), some (pI x4)] [] m Q := by
  refine Wq.iload (x := x4) dL_couldSo_11 rfl ?_
  refine Wq.iconst (v := 4) dL_couldSo_13 (by decide) ?_
  refine Wq.aload_n (t := 10) (r := 8) (j := 0) dL_couldSo_14 rfl ?_
  refine Wq.iconst (v := 1) dL_couldSo_15 (by decide) ?_
  refine Wq.callVI (As := [pI 1]) dL_couldSo_16 fX4_count ml_L_8 rfl (by decide) rfl (Nat.le_of_ble_eq_true rfl) (Nat.le_of_ble_eq_true rfl) h (fun r1 m2 h => ?_)
  refine Wq.imul dL_couldSo_19 ?_
  refine Wq.icmpge (tgt := 54) dL_couldSo_20 (by decide) (fun q3 => ?_) (fun q3 => ?_)
  · replace h := h.1 q3
    refine Wq.few (ls' := [some (pO 10 8 0), none, some (pI x2), some (pI x3), none]) ⟨rfl, ⟨rfl, ⟨rfl, trivial⟩⟩⟩ ?_
    exact h
  · replace h := h.2 q3
    refine Wq.iload_n (x := x3) dL_couldSo_23 rfl ?_
    refine Wq.aload_n (t := 10) (r := 8) (j := 0) dL_couldSo_24 rfl ?_
    refine Wq.iload (x := x4) dL_couldSo_25 rfl ?_
    refine Wq.iconst (v := 4) dL_couldSo_27 (by decide) ?_
    refine Wq.idiv dL_couldSo_28 (by decide) ?_
    refine Wq.iload_n (x := x1) dL_couldSo_29 rfl ?_
    refine Wq.iload (x := x4) dL_couldSo_30 rfl ?_
    refine Wq.iconst (v := 4) dL_couldSo_32 (by decide) ?_
    refine Wq.irem dL_couldSo_33 (by decide) ?_
    refine Wq.callVI (As := [pI (x4 / 4), pI x1, pI (irm x4 4)]) dL_couldSo_34 fX4_slot ml_L_49 rfl (by decide) rfl (Nat.le_of_ble_eq_true rfl) (Nat.le_of_ble_eq_true rfl) h (fun r4 m5 h => ?_)
    refine Wq.iconst (v := (-1)) dL_couldSo_37 (by decide) ?_
    refine Wq.icmpne (tgt := 45) dL_couldSo_38 (by decide) (fun q6 => ?_) (fun q6 => ?_)
    · replace h := h.1 q6
      refine Wq.iconst (v := 0) dL_couldSo_45 (by decide) ?_
      refine Wq.iadd dL_couldSo_46 ?_
      refine Wq.istore_n (ls2 := [some (pO 10 8 0), some (pI x1), some (pI x2), some (pI (x3 + 0)), some (pI x4)]) dL_couldSo_47 (by decide) rfl ?_
      exact h
    · replace h := h.2 q6
      refine Wq.iconst (v := 1) dL_couldSo_41 (by decide) ?_
      refine Wq.goto (tgt := 46) dL_couldSo_42 (by decide) ?_
      refine Wq.iadd dL_couldSo_46 ?_
      refine Wq.istore_n (ls2 := [some (pO 10 8 0), some (pI x1), some (pI x2), some (pI (x3 + 1)), some (pI x4)]) dL_couldSo_47 (by decide) rfl ?_
      exact h
set_option maxHeartbeats 4000000 in
set_option maxRecDepth 20000 in
theorem sgL_couldSo_48 {g : GG} {d : Nat} {c n : Nat} {m : PM} {Q : Ou → PM → Nat → Nat → Prop} {x1 : Int32} {x2 : Int32} {x3 : Int32} {x4 : Int32} (h : Wq g (d + 7) ML_couldSo c n 11 [some (pO 10 8 0), some (pI x1), some (pI x2), some (pI x3), some (pI (x4 + 1))] [] m Q) : Wq g (d + 7) ML_couldSo c n 48 [some (pO 10 8 0), some (pI x1), some (pI x2), some (pI x3), some (pI x4)] [] m Q := by
  refine Wq.iinc (x := x4) (ls2 := [some (pO 10 8 0), some (pI x1), some (pI x2), some (pI x3), some (pI (x4 + 1))]) dL_couldSo_48 rfl (by decide) rfl ?_
  refine Wq.goto (tgt := 11) dL_couldSo_51 (by decide) ?_
  exact h
set_option maxHeartbeats 4000000 in
set_option maxRecDepth 20000 in
theorem sgL_couldSo_54 {g : GG} {d : Nat} {c n : Nat} {m : PM} {Q : Ou → PM → Nat → Nat → Prop} {x2 : Int32} {x3 : Int32} (h : ((x2 < 0 → Q (.inl (some (pI 0))) m c n) ∧ (¬ x2 < 0 → ((x3 < x2 → Q (.inl (some (pI 0))) m c n) ∧ (¬ x3 < x2 → Wp g (d + 6) MX4_count 0 [some (pO 10 8 0), some (pI 3)] [] m (cI fun r3 m4 => Wp g (d + 6) MX4_count 0 [some (pO 10 8 0), some (pI 4)] [] m4 (cI fun r5 m6 => (((r3 + r5) < x2 → Q (.inl (some (pI 0))) m6 c n) ∧ (¬ (r3 + r5) < x2 → Q (.inl (some (pI 1))) m6 c n))))))))) : Wq g (d + 7) ML_couldSo c n 54 [some (pO 10 8 0), none, some (pI x2), some (pI x3), none] [] m Q := by
  refine Wq.iload_n (x := x2) dL_couldSo_54 rfl ?_
  refine Wq.iflt (tgt := 82) dL_couldSo_55 (by decide) (fun q1 => ?_) (fun q1 => ?_)
  · replace h := h.1 q1
    refine Wq.iconst (v := 0) dL_couldSo_82 (by decide) ?_
    exact Wq.iret dL_couldSo_83 (⟨_, rfl, by decide⟩) h
  · replace h := h.2 q1
    refine Wq.iload_n (x := x2) dL_couldSo_58 rfl ?_
    refine Wq.iload_n (x := x3) dL_couldSo_59 rfl ?_
    refine Wq.icmpgt (tgt := 82) dL_couldSo_60 (by decide) (fun q2 => ?_) (fun q2 => ?_)
    · replace h := h.1 q2
      refine Wq.iconst (v := 0) dL_couldSo_82 (by decide) ?_
      exact Wq.iret dL_couldSo_83 (⟨_, rfl, by decide⟩) h
    · replace h := h.2 q2
      refine Wq.iload_n (x := x2) dL_couldSo_63 rfl ?_
      refine Wq.aload_n (t := 10) (r := 8) (j := 0) dL_couldSo_64 rfl ?_
      refine Wq.iconst (v := 3) dL_couldSo_65 (by decide) ?_
      refine Wq.callVI (As := [pI 3]) dL_couldSo_66 fX4_count ml_L_8 rfl (by decide) rfl (Nat.le_of_ble_eq_true rfl) (Nat.le_of_ble_eq_true rfl) h (fun r3 m4 h => ?_)
      refine Wq.aload_n (t := 10) (r := 8) (j := 0) dL_couldSo_69 rfl ?_
      refine Wq.iconst (v := 4) dL_couldSo_70 (by decide) ?_
      refine Wq.callVI (As := [pI 4]) dL_couldSo_71 fX4_count ml_L_8 rfl (by decide) rfl (Nat.le_of_ble_eq_true rfl) (Nat.le_of_ble_eq_true rfl) h (fun r5 m6 h => ?_)
      refine Wq.iadd dL_couldSo_74 ?_
      refine Wq.icmpgt (tgt := 82) dL_couldSo_75 (by decide) (fun q7 => ?_) (fun q7 => ?_)
      · replace h := h.1 q7
        refine Wq.iconst (v := 0) dL_couldSo_82 (by decide) ?_
        exact Wq.iret dL_couldSo_83 (⟨_, rfl, by decide⟩) h
      · replace h := h.2 q7
        refine Wq.iconst (v := 1) dL_couldSo_78 (by decide) ?_
        refine Wq.goto (tgt := 83) dL_couldSo_79 (by decide) ?_
        exact Wq.iret dL_couldSo_83 (⟨_, rfl, by decide⟩) h
set_option maxHeartbeats 4000000 in
set_option maxRecDepth 20000 in
theorem sgL_does {g : GG} {d : Nat} {c n : Nat} {m : PM} {Q : Ou → PM → Nat → Nat → Prop} {x1 : Int32} (h : Wp g (d + 6) MX4_count 0 [some (pO 10 8 0), some (pI 2)] [] m (cI fun r1 m2 => Wp g (d + 6) MX4_count 0 [some (pO 10 8 0), some (pI 1)] [] m2 (cI fun r3 m4 => ((¬ r1 = 0 → ((¬ r1 = 0 ∧ True) ∧ ((¬ r3 = 0 → ((¬ r3 = 0 ∧ True) ∧ ((¬ r1 = 0 → Wp g (d + 6) MX4_pupil 0 [some (pO 10 8 0), some (pI (irm ((x1 >>> (4 &&& 31)) &&& 2147483647) r1)), some (pI 0)] [] m4 (cI fun r8 m9 => Wq g (d + 7) ML_does c n 63 [some (pO 10 8 0), some (pI x1), some (pI r1), some (pI r3), some (pI (irm ((x1 >>> (4 &&& 31)) &&& 2147483647) r1)), some (pI (irm ((x1 >>> (4 &&& 31)) &&& 2147483647) r3)), some (pI r8), none] [] m9 Q)) ∧ (r1 = 0 → Wq g (d + 7) ML_does c n 63 [some (pO 10 8 0), some (pI x1), some (pI r1), some (pI r3), some (pI (irm ((x1 >>> (4 &&& 31)) &&& 2147483647) r1)), some (pI (irm ((x1 >>> (4 &&& 31)) &&& 2147483647) r3)), some (pI 3), none] [] m4 Q)))) ∧ (r3 = 0 → ((¬ r1 = 0 → Wp g (d + 6) MX4_pupil 0 [some (pO 10 8 0), some (pI (irm ((x1 >>> (4 &&& 31)) &&& 2147483647) r1)), some (pI 0)] [] m4 (cI fun r12 m13 => Wq g (d + 7) ML_does c n 63 [some (pO 10 8 0), some (pI x1), some (pI r1), some (pI r3), some (pI (irm ((x1 >>> (4 &&& 31)) &&& 2147483647) r1)), some (pI 0), some (pI r12), none] [] m13 Q)) ∧ (r1 = 0 → Wq g (d + 7) ML_does c n 63 [some (pO 10 8 0), some (pI x1), some (pI r1), some (pI r3), some (pI (irm ((x1 >>> (4 &&& 31)) &&& 2147483647) r1)), some (pI 0), some (pI 3), none] [] m4 Q)))))) ∧ (r1 = 0 → ((¬ r3 = 0 → ((¬ r3 = 0 ∧ True) ∧ ((¬ r1 = 0 → Wp g (d + 6) MX4_pupil 0 [some (pO 10 8 0), some (pI 0), some (pI 0)] [] m4 (cI fun r17 m18 => Wq g (d + 7) ML_does c n 63 [some (pO 10 8 0), some (pI x1), some (pI r1), some (pI r3), some (pI 0), some (pI (irm ((x1 >>> (4 &&& 31)) &&& 2147483647) r3)), some (pI r17), none] [] m18 Q)) ∧ (r1 = 0 → Wq g (d + 7) ML_does c n 63 [some (pO 10 8 0), some (pI x1), some (pI r1), some (pI r3), some (pI 0), some (pI (irm ((x1 >>> (4 &&& 31)) &&& 2147483647) r3)), some (pI 3), none] [] m4 Q)))) ∧ (r3 = 0 → ((¬ r1 = 0 → Wp g (d + 6) MX4_pupil 0 [some (pO 10 8 0), some (pI 0), some (pI 0)] [] m4 (cI fun r21 m22 => Wq g (d + 7) ML_does c n 63 [some (pO 10 8 0), some (pI x1), some (pI r1), some (pI r3), some (pI 0), some (pI 0), some (pI r21), none] [] m22 Q)) ∧ (r1 = 0 → Wq g (d + 7) ML_does c n 63 [some (pO 10 8 0), some (pI x1), some (pI r1), some (pI r3), some (pI 0), some (pI 0), some (pI 3), none] [] m4 Q))))))))) : Wq g (d + 7) ML_does c n 0 [some (pO 10 8 0), some (pI x1)] [] m Q := by
  refine Wq.few (ls' := [some (pO 10 8 0), some (pI x1), none, none, none, none, none, none]) ⟨rfl, ⟨rfl, trivial⟩⟩ ?_
  refine Wq.aload_n (t := 10) (r := 8) (j := 0) dL_does_0 rfl ?_
  refine Wq.iconst (v := 2) dL_does_1 (by decide) ?_
  refine Wq.callVI (As := [pI 2]) dL_does_2 fX4_count ml_L_8 rfl (by decide) rfl (Nat.le_of_ble_eq_true rfl) (Nat.le_of_ble_eq_true rfl) h (fun r1 m2 h => ?_)
  refine Wq.istore_n (ls2 := [some (pO 10 8 0), some (pI x1), some (pI r1), none, none, none, none, none]) dL_does_5 (by decide) rfl ?_
  refine Wq.aload_n (t := 10) (r := 8) (j := 0) dL_does_6 rfl ?_
  refine Wq.iconst (v := 1) dL_does_7 (by decide) ?_
  refine Wq.callVI (As := [pI 1]) dL_does_8 fX4_count ml_L_8 rfl (by decide) rfl (Nat.le_of_ble_eq_true rfl) (Nat.le_of_ble_eq_true rfl) h (fun r3 m4 h => ?_)
  refine Wq.istore_n (ls2 := [some (pO 10 8 0), some (pI x1), some (pI r1), some (pI r3), none, none, none, none]) dL_does_11 (by decide) rfl ?_
  refine Wq.iload_n (x := r1) dL_does_12 rfl ?_
  refine Wq.ifne (tgt := 20) dL_does_13 (by decide) (fun q5 => ?_) (fun q5 => ?_)
  · replace h := h.1 q5
    refine Wq.iload_n (x := x1) dL_does_20 rfl ?_
    refine Wq.iconst (v := 4) dL_does_21 (by decide) ?_
    refine Wq.ishr dL_does_22 ?_
    refine Wq.iload_n (x := r1) dL_does_23 rfl ?_
    refine Wq.callSI (As := [pI (x1 >>> (4 &&& 31)), pI r1]) dL_does_24 fL_low ml_L_14 rfl (Nat.le_of_ble_eq_true rfl) (Nat.le_of_ble_eq_true rfl) (suL_low h.1) (fun x14 m9 e9 => ?_)
    obtain ⟨rfl, rfl⟩ := e9
    replace h := h.2
    refine Wq.istore (ls2 := [some (pO 10 8 0), some (pI x1), some (pI r1), some (pI r3), some (pI (irm ((x1 >>> (4 &&& 31)) &&& 2147483647) r1)), none, none, none]) dL_does_27 (by decide) rfl ?_
    refine Wq.iload_n (x := r3) dL_does_29 rfl ?_
    refine Wq.ifne (tgt := 37) dL_does_30 (by decide) (fun q6 => ?_) (fun q6 => ?_)
    · replace h := h.1 q6
      refine Wq.iload_n (x := x1) dL_does_37 rfl ?_
      refine Wq.iconst (v := 4) dL_does_38 (by decide) ?_
      refine Wq.ishr dL_does_39 ?_
      refine Wq.iload_n (x := r3) dL_does_40 rfl ?_
      refine Wq.callSI (As := [pI (x1 >>> (4 &&& 31)), pI r3]) dL_does_41 fL_low ml_L_14 rfl (Nat.le_of_ble_eq_true rfl) (Nat.le_of_ble_eq_true rfl) (suL_low h.1) (fun x10 m9 e9 => ?_)
      obtain ⟨rfl, rfl⟩ := e9
      replace h := h.2
      refine Wq.istore (ls2 := [some (pO 10 8 0), some (pI x1), some (pI r1), some (pI r3), some (pI (irm ((x1 >>> (4 &&& 31)) &&& 2147483647) r1)), some (pI (irm ((x1 >>> (4 &&& 31)) &&& 2147483647) r3)), none, none]) dL_does_44 (by decide) rfl ?_
      refine Wq.iload_n (x := r1) dL_does_46 rfl ?_
      refine Wq.ifne (tgt := 54) dL_does_47 (by decide) (fun q7 => ?_) (fun q7 => ?_)
      · replace h := h.1 q7
        refine Wq.aload_n (t := 10) (r := 8) (j := 0) dL_does_54 rfl ?_
        refine Wq.iload (x := (irm ((x1 >>> (4 &&& 31)) &&& 2147483647) r1)) dL_does_55 rfl ?_
        refine Wq.iconst (v := 0) dL_does_57 (by decide) ?_
        refine Wq.callVI (As := [pI (irm ((x1 >>> (4 &&& 31)) &&& 2147483647) r1), pI 0]) dL_does_58 fX4_pupil ml_L_20 rfl (by decide) rfl (Nat.le_of_ble_eq_true rfl) (Nat.le_of_ble_eq_true rfl) h (fun r8 m9 h => ?_)
        refine Wq.istore (ls2 := [some (pO 10 8 0), some (pI x1), some (pI r1), some (pI r3), some (pI (irm ((x1 >>> (4 &&& 31)) &&& 2147483647) r1)), some (pI (irm ((x1 >>> (4 &&& 31)) &&& 2147483647) r3)), some (pI r8), none]) dL_does_61 (by decide) rfl ?_
        exact h
      · replace h := h.2 q7
        refine Wq.iconst (v := 3) dL_does_50 (by decide) ?_
        refine Wq.goto (tgt := 61) dL_does_51 (by decide) ?_
        refine Wq.istore (ls2 := [some (pO 10 8 0), some (pI x1), some (pI r1), some (pI r3), some (pI (irm ((x1 >>> (4 &&& 31)) &&& 2147483647) r1)), some (pI (irm ((x1 >>> (4 &&& 31)) &&& 2147483647) r3)), some (pI 3), none]) dL_does_61 (by decide) rfl ?_
        exact h
    · replace h := h.2 q6
      refine Wq.iconst (v := 0) dL_does_33 (by decide) ?_
      refine Wq.goto (tgt := 44) dL_does_34 (by decide) ?_
      refine Wq.istore (ls2 := [some (pO 10 8 0), some (pI x1), some (pI r1), some (pI r3), some (pI (irm ((x1 >>> (4 &&& 31)) &&& 2147483647) r1)), some (pI 0), none, none]) dL_does_44 (by decide) rfl ?_
      refine Wq.iload_n (x := r1) dL_does_46 rfl ?_
      refine Wq.ifne (tgt := 54) dL_does_47 (by decide) (fun q11 => ?_) (fun q11 => ?_)
      · replace h := h.1 q11
        refine Wq.aload_n (t := 10) (r := 8) (j := 0) dL_does_54 rfl ?_
        refine Wq.iload (x := (irm ((x1 >>> (4 &&& 31)) &&& 2147483647) r1)) dL_does_55 rfl ?_
        refine Wq.iconst (v := 0) dL_does_57 (by decide) ?_
        refine Wq.callVI (As := [pI (irm ((x1 >>> (4 &&& 31)) &&& 2147483647) r1), pI 0]) dL_does_58 fX4_pupil ml_L_20 rfl (by decide) rfl (Nat.le_of_ble_eq_true rfl) (Nat.le_of_ble_eq_true rfl) h (fun r12 m13 h => ?_)
        refine Wq.istore (ls2 := [some (pO 10 8 0), some (pI x1), some (pI r1), some (pI r3), some (pI (irm ((x1 >>> (4 &&& 31)) &&& 2147483647) r1)), some (pI 0), some (pI r12), none]) dL_does_61 (by decide) rfl ?_
        exact h
      · replace h := h.2 q11
        refine Wq.iconst (v := 3) dL_does_50 (by decide) ?_
        refine Wq.goto (tgt := 61) dL_does_51 (by decide) ?_
        refine Wq.istore (ls2 := [some (pO 10 8 0), some (pI x1), some (pI r1), some (pI r3), some (pI (irm ((x1 >>> (4 &&& 31)) &&& 2147483647) r1)), some (pI 0), some (pI 3), none]) dL_does_61 (by decide) rfl ?_
        exact h
  · replace h := h.2 q5
    refine Wq.iconst (v := 0) dL_does_16 (by decide) ?_
    refine Wq.goto (tgt := 27) dL_does_17 (by decide) ?_
    refine Wq.istore (ls2 := [some (pO 10 8 0), some (pI x1), some (pI r1), some (pI r3), some (pI 0), none, none, none]) dL_does_27 (by decide) rfl ?_
    refine Wq.iload_n (x := r3) dL_does_29 rfl ?_
    refine Wq.ifne (tgt := 37) dL_does_30 (by decide) (fun q15 => ?_) (fun q15 => ?_)
    · replace h := h.1 q15
      refine Wq.iload_n (x := x1) dL_does_37 rfl ?_
      refine Wq.iconst (v := 4) dL_does_38 (by decide) ?_
      refine Wq.ishr dL_does_39 ?_
      refine Wq.iload_n (x := r3) dL_does_40 rfl ?_
      refine Wq.callSI (As := [pI (x1 >>> (4 &&& 31)), pI r3]) dL_does_41 fL_low ml_L_14 rfl (Nat.le_of_ble_eq_true rfl) (Nat.le_of_ble_eq_true rfl) (suL_low h.1) (fun x19 m9 e9 => ?_)
      obtain ⟨rfl, rfl⟩ := e9
      replace h := h.2
      refine Wq.istore (ls2 := [some (pO 10 8 0), some (pI x1), some (pI r1), some (pI r3), some (pI 0), some (pI (irm ((x1 >>> (4 &&& 31)) &&& 2147483647) r3)), none, none]) dL_does_44 (by decide) rfl ?_
      refine Wq.iload_n (x := r1) dL_does_46 rfl ?_
      refine Wq.ifne (tgt := 54) dL_does_47 (by decide) (fun q16 => ?_) (fun q16 => ?_)
      · replace h := h.1 q16
        refine Wq.aload_n (t := 10) (r := 8) (j := 0) dL_does_54 rfl ?_
        refine Wq.iload (x := 0) dL_does_55 rfl ?_
        refine Wq.iconst (v := 0) dL_does_57 (by decide) ?_
        refine Wq.callVI (As := [pI 0, pI 0]) dL_does_58 fX4_pupil ml_L_20 rfl (by decide) rfl (Nat.le_of_ble_eq_true rfl) (Nat.le_of_ble_eq_true rfl) h (fun r17 m18 h => ?_)
        refine Wq.istore (ls2 := [some (pO 10 8 0), some (pI x1), some (pI r1), some (pI r3), some (pI 0), some (pI (irm ((x1 >>> (4 &&& 31)) &&& 2147483647) r3)), some (pI r17), none]) dL_does_61 (by decide) rfl ?_
        exact h
      · replace h := h.2 q16
        refine Wq.iconst (v := 3) dL_does_50 (by decide) ?_
        refine Wq.goto (tgt := 61) dL_does_51 (by decide) ?_
        refine Wq.istore (ls2 := [some (pO 10 8 0), some (pI x1), some (pI r1), some (pI r3), some (pI 0), some (pI (irm ((x1 >>> (4 &&& 31)) &&& 2147483647) r3)), some (pI 3), none]) dL_does_61 (by decide) rfl ?_
        exact h
    · replace h := h.2 q15
      refine Wq.iconst (v := 0) dL_does_33 (by decide) ?_
      refine Wq.goto (tgt := 44) dL_does_34 (by decide) ?_
      refine Wq.istore (ls2 := [some (pO 10 8 0), some (pI x1), some (pI r1), some (pI r3), some (pI 0), some (pI 0), none, none]) dL_does_44 (by decide) rfl ?_
      refine Wq.iload_n (x := r1) dL_does_46 rfl ?_
      refine Wq.ifne (tgt := 54) dL_does_47 (by decide) (fun q20 => ?_) (fun q20 => ?_)
      · replace h := h.1 q20
        refine Wq.aload_n (t := 10) (r := 8) (j := 0) dL_does_54 rfl ?_
        refine Wq.iload (x := 0) dL_does_55 rfl ?_
        refine Wq.iconst (v := 0) dL_does_57 (by decide) ?_
        refine Wq.callVI (As := [pI 0, pI 0]) dL_does_58 fX4_pupil ml_L_20 rfl (by decide) rfl (Nat.le_of_ble_eq_true rfl) (Nat.le_of_ble_eq_true rfl) h (fun r21 m22 h => ?_)
        refine Wq.istore (ls2 := [some (pO 10 8 0), some (pI x1), some (pI r1), some (pI r3), some (pI 0), some (pI 0), some (pI r21), none]) dL_does_61 (by decide) rfl ?_
        exact h
      · replace h := h.2 q20
        refine Wq.iconst (v := 3) dL_does_50 (by decide) ?_
        refine Wq.goto (tgt := 61) dL_does_51 (by decide) ?_
        refine Wq.istore (ls2 := [some (pO 10 8 0), some (pI x1), some (pI r1), some (pI r3), some (pI 0), some (pI 0), some (pI 3), none]) dL_does_61 (by decide) rfl ?_
        exact h
set_option maxHeartbeats 4000000 in
set_option maxRecDepth 20000 in
theorem sgL_does_63 {g : GG} {d : Nat} {c n : Nat} {m : PM} {Q : Ou → PM → Nat → Nat → Prop} {x1 : Int32} {x2 : Int32} {x3 : Int32} {x4 : Int32} {x5 : Int32} {x6 : Int32} (h : (((x1 &&& 15) = 0 → ((12 ≤ x2 → Q (.inl (some (pI 0))) m c n) ∧ (¬ 12 ≤ x2 → Wp g (d + 6) MX4_addPupil 0 [some (pO 10 8 0)] [] m (cI fun r3 m4 => Q (.inl (some (pI r3))) m4 c n)))) ∧ (¬ (x1 &&& 15) = 0 → (((x1 &&& 15) = 1 → ((12 ≤ x2 → Q (.inl (some (pI 0))) m c n) ∧ (¬ 12 ≤ x2 → Wp g (d + 6) MX4_addPupil 0 [some (pO 10 8 0)] [] m (cI fun r7 m8 => Q (.inl (some (pI r7))) m8 c n)))) ∧ (¬ (x1 &&& 15) = 1 → (((x1 &&& 15) = 2 → ((4 ≤ x3 → Q (.inl (some (pI 0))) m c n) ∧ (¬ 4 ≤ x3 → ((¬ ((x1 >>> (4 &&& 31)) &&& 1) = 0 → Q (.inl (some (pI 0))) m c n) ∧ (((x1 >>> (4 &&& 31)) &&& 1) = 0 → Wp g (d + 6) MX4_addExaminer 0 [some (pO 10 8 0)] [] m (cI fun r12 m13 => Q (.inl (some (pI r12))) m13 c n)))))) ∧ (¬ (x1 &&& 15) = 2 → (((x1 &&& 15) = 3 → ((¬ x6 = 0 → Q (.inl (some (pI 0))) m c n) ∧ (x6 = 0 → Wp g (d + 6) MX4_ask 0 [some (pO 10 8 0), some (pI x4)] [] m (cI fun r16 m17 => Q (.inl (some (pI r16))) m17 c n)))) ∧ (¬ (x1 &&& 15) = 3 → (((x1 &&& 15) = 4 → ((¬ x6 = 0 → Q (.inl (some (pI 0))) m c n) ∧ (x6 = 0 → Wp g (d + 6) MX4_ask 0 [some (pO 10 8 0), some (pI x4)] [] m (cI fun r20 m21 => Q (.inl (some (pI r20))) m21 c n)))) ∧ (¬ (x1 &&& 15) = 4 → (((x1 &&& 15) = 5 → ((¬ x6 = 0 → Q (.inl (some (pI 0))) m c n) ∧ (x6 = 0 → Wp g (d + 6) MX4_ask 0 [some (pO 10 8 0), some (pI x4)] [] m (cI fun r24 m25 => Q (.inl (some (pI r24))) m25 c n)))) ∧ (¬ (x1 &&& 15) = 5 → (((x1 &&& 15) = 6 → ((¬ x6 = 0 → Q (.inl (some (pI 0))) m c n) ∧ (x6 = 0 → Wp g (d + 6) MX4_ask 0 [some (pO 10 8 0), some (pI x4)] [] m (cI fun r28 m29 => Q (.inl (some (pI r28))) m29 c n)))) ∧ (¬ (x1 &&& 15) = 6 → (((x1 &&& 15) = 7 → ((x6 = 1 → Wp g (d + 6) MX4_quit 0 [some (pO 10 8 0), some (pI x4)] [] m (cI fun r32 m33 => Q (.inl (some (pI r32))) m33 c n)) ∧ (¬ x6 = 1 → ((¬ x6 = 2 → Q (.inl (some (pI 0))) m c n) ∧ (x6 = 2 → Wp g (d + 6) MX4_quit 0 [some (pO 10 8 0), some (pI x4)] [] m (cI fun r35 m36 => Q (.inl (some (pI r35))) m36 c n)))))) ∧ (¬ (x1 &&& 15) = 7 → (((x1 &&& 15) = 8 → ((x3 ≤ 0 → Q (.inl (some (pI 0))) m c n) ∧ (¬ x3 ≤ 0 → ((¬ (10 : Int32) = 0 ∧ True) ∧ Wp g (d + 6) MX4_cancel 0 [some (pO 10 8 0), some (pI x5), some (pI (irm ((x1 >>> (7 &&& 31)) &&& 2147483647) (10 : Int32)))] [] m (cI fun r39 m40 => Q (.inl (some (pI r39))) m40 c n))))) ∧ (¬ (x1 &&& 15) = 8 → (((x1 &&& 15) = 9 → ((¬ x6 = 2 → Q (.inl (some (pI 0))) m c n) ∧ (x6 = 2 → Wp g (d + 6) MX4_pupil 0 [some (pO 10 8 0), some (pI x4), some (pI 5)] [] m (cI fun r44 m45 => ((¬ r44 = 0 → Q (.inl (some (pI 0))) m45 c n) ∧ (r44 = 0 → ((¬ ((x1 >>> (9 &&& 31)) &&& 3) = 0 → Wp g (d + 6) MX4_test 0 [some (pO 10 8 0), some (pI x4), some (pI 0)] [] m45 (cI fun r48 m49 => Q (.inl (some (pI r48))) m49 c n)) ∧ (((x1 >>> (9 &&& 31)) &&& 3) = 0 → Wp g (d + 6) MX4_test 0 [some (pO 10 8 0), some (pI x4), some (pI 1)] [] m45 (cI fun r50 m51 => Q (.inl (some (pI r50))) m51 c n))))))))) ∧ (¬ (x1 &&& 15) = 9 → (((x1 &&& 15) = 10 → ((¬ x6 = 2 → Q (.inl (some (pI 0))) m c n) ∧ (x6 = 2 → Wp g (d + 6) MX4_pupil 0 [some (pO 10 8 0), some (pI x4), some (pI 5)] [] m (cI fun r54 m55 => ((¬ r54 = 0 → Q (.inl (some (pI 0))) m55 c n) ∧ (r54 = 0 → ((¬ ((x1 >>> (9 &&& 31)) &&& 3) = 0 → Wp g (d + 6) MX4_test 0 [some (pO 10 8 0), some (pI x4), some (pI 0)] [] m55 (cI fun r58 m59 => Q (.inl (some (pI r58))) m59 c n)) ∧ (((x1 >>> (9 &&& 31)) &&& 3) = 0 → Wp g (d + 6) MX4_test 0 [some (pO 10 8 0), some (pI x4), some (pI 1)] [] m55 (cI fun r60 m61 => Q (.inl (some (pI r60))) m61 c n))))))))) ∧ (¬ (x1 &&& 15) = 10 → (((x1 &&& 15) = 11 → ((¬ x6 = 2 → Q (.inl (some (pI 0))) m c n) ∧ (x6 = 2 → Wp g (d + 6) MX4_pupil 0 [some (pO 10 8 0), some (pI x4), some (pI 5)] [] m (cI fun r64 m65 => ((¬ r64 = 0 → Q (.inl (some (pI 0))) m65 c n) ∧ (r64 = 0 → ((¬ ((x1 >>> (9 &&& 31)) &&& 3) = 0 → Wp g (d + 6) MX4_test 0 [some (pO 10 8 0), some (pI x4), some (pI 0)] [] m65 (cI fun r68 m69 => Q (.inl (some (pI r68))) m69 c n)) ∧ (((x1 >>> (9 &&& 31)) &&& 3) = 0 → Wp g (d + 6) MX4_test 0 [some (pO 10 8 0), some (pI x4), some (pI 1)] [] m65 (cI fun r70 m71 => Q (.inl (some (pI r70))) m71 c n))))))))) ∧ (¬ (x1 &&& 15) = 11 → (((x1 &&& 15) = 12 → ((¬ (4 : Int32) = 0 ∧ True) ∧ ((¬ (irm ((x1 >>> (4 &&& 31)) &&& 2147483647) (4 : Int32)) = 1 → ((¬ (10 : Int32) = 0 ∧ True) ∧ Wp g (d + 6) MX4_set 0 [some (pO 10 8 0), some (pI (irm ((x1 >>> (4 &&& 31)) &&& 2147483647) (4 : Int32))), some (pI (irm ((x1 >>> (6 &&& 31)) &&& 2147483647) (10 : Int32)))] [] m (cI fun r74 m75 => Q (.inl (some (pI r74))) m75 c n))) ∧ ((irm ((x1 >>> (4 &&& 31)) &&& 2147483647) (4 : Int32)) = 1 → Wp g (d + 6) MX4_set 0 [some (pO 10 8 0), some (pI (irm ((x1 >>> (4 &&& 31)) &&& 2147483647) (4 : Int32))), some (pI ((x1 >>> (6 &&& 31)) &&& 1))] [] m (cI fun r77 m78 => Q (.inl (some (pI r77))) m78 c n))))) ∧ (¬ (x1 &&& 15) = 12 → Wp g (d + 6) MX4_next 0 [some (pO 10 8 0)] [] m (cI fun r80 m81 => Q (.inl (some (pI r80))) m81 c n)))))))))))))))))))))))))))) : Wq g (d + 7) ML_does c n 63 [some (pO 10 8 0), some (pI x1), some (pI x2), some (pI x3), some (pI x4), some (pI x5), some (pI x6), none] [] m Q := by
  refine Wq.iload_n (x := x1) dL_does_63 rfl ?_
  refine Wq.bipush (v := 15) dL_does_64 (by decide) ?_
  refine Wq.iand dL_does_66 ?_
  by_cases q1 : (x1 &&& 15) = 0
  · replace h := h.1 q1
    refine Wq.tableIn (tgt := 132) dL_does_67 (by rw [q1]; decide) (by rw [q1]; decide) (by rw [q1]; rfl) (by decide) ?_
    refine Wq.iload_n (x := x2) dL_does_132 rfl ?_
    refine Wq.bipush (v := 12) dL_does_133 (by decide) ?_
    refine Wq.icmpge (tgt := 145) dL_does_135 (by decide) (fun q2 => ?_) (fun q2 => ?_)
    · replace h := h.1 q2
      refine Wq.iconst (v := 0) dL_does_145 (by decide) ?_
      exact Wq.iret dL_does_146 (⟨_, rfl, rfl⟩) h
    · replace h := h.2 q2
      refine Wq.aload_n (t := 10) (r := 8) (j := 0) dL_does_138 rfl ?_
      refine Wq.callVI (As := []) dL_does_139 fX4_addPupil ml_L_23 rfl (by decide) rfl (Nat.le_of_ble_eq_true rfl) (Nat.le_of_ble_eq_true rfl) h (fun r3 m4 h => ?_)
      refine Wq.goto (tgt := 146) dL_does_142 (by decide) ?_
      exact Wq.iret dL_does_146 (⟨_, rfl, rfl⟩) h
  · replace h := h.2 q1
    by_cases q5 : (x1 &&& 15) = 1
    · replace h := h.1 q5
      refine Wq.tableIn (tgt := 132) dL_does_67 (by rw [q5]; decide) (by rw [q5]; decide) (by rw [q5]; rfl) (by decide) ?_
      refine Wq.iload_n (x := x2) dL_does_132 rfl ?_
      refine Wq.bipush (v := 12) dL_does_133 (by decide) ?_
      refine Wq.icmpge (tgt := 145) dL_does_135 (by decide) (fun q6 => ?_) (fun q6 => ?_)
      · replace h := h.1 q6
        refine Wq.iconst (v := 0) dL_does_145 (by decide) ?_
        exact Wq.iret dL_does_146 (⟨_, rfl, rfl⟩) h
      · replace h := h.2 q6
        refine Wq.aload_n (t := 10) (r := 8) (j := 0) dL_does_138 rfl ?_
        refine Wq.callVI (As := []) dL_does_139 fX4_addPupil ml_L_23 rfl (by decide) rfl (Nat.le_of_ble_eq_true rfl) (Nat.le_of_ble_eq_true rfl) h (fun r7 m8 h => ?_)
        refine Wq.goto (tgt := 146) dL_does_142 (by decide) ?_
        exact Wq.iret dL_does_146 (⟨_, rfl, rfl⟩) h
    · replace h := h.2 q5
      by_cases q9 : (x1 &&& 15) = 2
      · replace h := h.1 q9
        refine Wq.tableIn (tgt := 147) dL_does_67 (by rw [q9]; decide) (by rw [q9]; decide) (by rw [q9]; rfl) (by decide) ?_
        refine Wq.iload_n (x := x3) dL_does_147 rfl ?_
        refine Wq.iconst (v := 4) dL_does_148 (by decide) ?_
        refine Wq.icmpge (tgt := 167) dL_does_149 (by decide) (fun q10 => ?_) (fun q10 => ?_)
        · replace h := h.1 q10
          refine Wq.iconst (v := 0) dL_does_167 (by decide) ?_
          exact Wq.iret dL_does_168 (⟨_, rfl, rfl⟩) h
        · replace h := h.2 q10
          refine Wq.iload_n (x := x1) dL_does_152 rfl ?_
          refine Wq.iconst (v := 4) dL_does_153 (by decide) ?_
          refine Wq.ishr dL_does_154 ?_
          refine Wq.iconst (v := 1) dL_does_155 (by decide) ?_
          refine Wq.iand dL_does_156 ?_
          refine Wq.ifne (tgt := 167) dL_does_157 (by decide) (fun q11 => ?_) (fun q11 => ?_)
          · replace h := h.1 q11
            refine Wq.iconst (v := 0) dL_does_167 (by decide) ?_
            exact Wq.iret dL_does_168 (⟨_, rfl, rfl⟩) h
          · replace h := h.2 q11
            refine Wq.aload_n (t := 10) (r := 8) (j := 0) dL_does_160 rfl ?_
            refine Wq.callVI (As := []) dL_does_161 fX4_addExaminer ml_L_27 rfl (by decide) rfl (Nat.le_of_ble_eq_true rfl) (Nat.le_of_ble_eq_true rfl) h (fun r12 m13 h => ?_)
            refine Wq.goto (tgt := 168) dL_does_164 (by decide) ?_
            exact Wq.iret dL_does_168 (⟨_, rfl, rfl⟩) h
      · replace h := h.2 q9
        by_cases q14 : (x1 &&& 15) = 3
        · replace h := h.1 q14
          refine Wq.tableIn (tgt := 169) dL_does_67 (by rw [q14]; decide) (by rw [q14]; decide) (by rw [q14]; rfl) (by decide) ?_
          refine Wq.iload (x := x6) dL_does_169 rfl ?_
          refine Wq.ifne (tgt := 183) dL_does_171 (by decide) (fun q15 => ?_) (fun q15 => ?_)
          · replace h := h.1 q15
            refine Wq.iconst (v := 0) dL_does_183 (by decide) ?_
            exact Wq.iret dL_does_184 (⟨_, rfl, rfl⟩) h
          · replace h := h.2 q15
            refine Wq.aload_n (t := 10) (r := 8) (j := 0) dL_does_174 rfl ?_
            refine Wq.iload (x := x4) dL_does_175 rfl ?_
            refine Wq.callVI (As := [pI x4]) dL_does_177 fX4_ask ml_L_30 rfl (by decide) rfl (Nat.le_of_ble_eq_true rfl) (Nat.le_of_ble_eq_true rfl) h (fun r16 m17 h => ?_)
            refine Wq.goto (tgt := 184) dL_does_180 (by decide) ?_
            exact Wq.iret dL_does_184 (⟨_, rfl, rfl⟩) h
        · replace h := h.2 q14
          by_cases q18 : (x1 &&& 15) = 4
          · replace h := h.1 q18
            refine Wq.tableIn (tgt := 169) dL_does_67 (by rw [q18]; decide) (by rw [q18]; decide) (by rw [q18]; rfl) (by decide) ?_
            refine Wq.iload (x := x6) dL_does_169 rfl ?_
            refine Wq.ifne (tgt := 183) dL_does_171 (by decide) (fun q19 => ?_) (fun q19 => ?_)
            · replace h := h.1 q19
              refine Wq.iconst (v := 0) dL_does_183 (by decide) ?_
              exact Wq.iret dL_does_184 (⟨_, rfl, rfl⟩) h
            · replace h := h.2 q19
              refine Wq.aload_n (t := 10) (r := 8) (j := 0) dL_does_174 rfl ?_
              refine Wq.iload (x := x4) dL_does_175 rfl ?_
              refine Wq.callVI (As := [pI x4]) dL_does_177 fX4_ask ml_L_30 rfl (by decide) rfl (Nat.le_of_ble_eq_true rfl) (Nat.le_of_ble_eq_true rfl) h (fun r20 m21 h => ?_)
              refine Wq.goto (tgt := 184) dL_does_180 (by decide) ?_
              exact Wq.iret dL_does_184 (⟨_, rfl, rfl⟩) h
          · replace h := h.2 q18
            by_cases q22 : (x1 &&& 15) = 5
            · replace h := h.1 q22
              refine Wq.tableIn (tgt := 169) dL_does_67 (by rw [q22]; decide) (by rw [q22]; decide) (by rw [q22]; rfl) (by decide) ?_
              refine Wq.iload (x := x6) dL_does_169 rfl ?_
              refine Wq.ifne (tgt := 183) dL_does_171 (by decide) (fun q23 => ?_) (fun q23 => ?_)
              · replace h := h.1 q23
                refine Wq.iconst (v := 0) dL_does_183 (by decide) ?_
                exact Wq.iret dL_does_184 (⟨_, rfl, rfl⟩) h
              · replace h := h.2 q23
                refine Wq.aload_n (t := 10) (r := 8) (j := 0) dL_does_174 rfl ?_
                refine Wq.iload (x := x4) dL_does_175 rfl ?_
                refine Wq.callVI (As := [pI x4]) dL_does_177 fX4_ask ml_L_30 rfl (by decide) rfl (Nat.le_of_ble_eq_true rfl) (Nat.le_of_ble_eq_true rfl) h (fun r24 m25 h => ?_)
                refine Wq.goto (tgt := 184) dL_does_180 (by decide) ?_
                exact Wq.iret dL_does_184 (⟨_, rfl, rfl⟩) h
            · replace h := h.2 q22
              by_cases q26 : (x1 &&& 15) = 6
              · replace h := h.1 q26
                refine Wq.tableIn (tgt := 169) dL_does_67 (by rw [q26]; decide) (by rw [q26]; decide) (by rw [q26]; rfl) (by decide) ?_
                refine Wq.iload (x := x6) dL_does_169 rfl ?_
                refine Wq.ifne (tgt := 183) dL_does_171 (by decide) (fun q27 => ?_) (fun q27 => ?_)
                · replace h := h.1 q27
                  refine Wq.iconst (v := 0) dL_does_183 (by decide) ?_
                  exact Wq.iret dL_does_184 (⟨_, rfl, rfl⟩) h
                · replace h := h.2 q27
                  refine Wq.aload_n (t := 10) (r := 8) (j := 0) dL_does_174 rfl ?_
                  refine Wq.iload (x := x4) dL_does_175 rfl ?_
                  refine Wq.callVI (As := [pI x4]) dL_does_177 fX4_ask ml_L_30 rfl (by decide) rfl (Nat.le_of_ble_eq_true rfl) (Nat.le_of_ble_eq_true rfl) h (fun r28 m29 h => ?_)
                  refine Wq.goto (tgt := 184) dL_does_180 (by decide) ?_
                  exact Wq.iret dL_does_184 (⟨_, rfl, rfl⟩) h
              · replace h := h.2 q26
                by_cases q30 : (x1 &&& 15) = 7
                · replace h := h.1 q30
                  refine Wq.tableIn (tgt := 185) dL_does_67 (by rw [q30]; decide) (by rw [q30]; decide) (by rw [q30]; rfl) (by decide) ?_
                  refine Wq.iload (x := x6) dL_does_185 rfl ?_
                  refine Wq.iconst (v := 1) dL_does_187 (by decide) ?_
                  refine Wq.icmpeq (tgt := 197) dL_does_188 (by decide) (fun q31 => ?_) (fun q31 => ?_)
                  · replace h := h.1 q31
                    refine Wq.aload_n (t := 10) (r := 8) (j := 0) dL_does_197 rfl ?_
                    refine Wq.iload (x := x4) dL_does_198 rfl ?_
                    refine Wq.callVI (As := [pI x4]) dL_does_200 fX4_quit ml_L_33 rfl (by decide) rfl (Nat.le_of_ble_eq_true rfl) (Nat.le_of_ble_eq_true rfl) h (fun r32 m33 h => ?_)
                    refine Wq.goto (tgt := 207) dL_does_203 (by decide) ?_
                    exact Wq.iret dL_does_207 (⟨_, rfl, rfl⟩) h
                  · replace h := h.2 q31
                    refine Wq.iload (x := x6) dL_does_191 rfl ?_
                    refine Wq.iconst (v := 2) dL_does_193 (by decide) ?_
                    refine Wq.icmpne (tgt := 206) dL_does_194 (by decide) (fun q34 => ?_) (fun q34 => ?_)
                    · replace h := h.1 q34
                      refine Wq.iconst (v := 0) dL_does_206 (by decide) ?_
                      exact Wq.iret dL_does_207 (⟨_, rfl, rfl⟩) h
                    · replace h := h.2 q34
                      refine Wq.aload_n (t := 10) (r := 8) (j := 0) dL_does_197 rfl ?_
                      refine Wq.iload (x := x4) dL_does_198 rfl ?_
                      refine Wq.callVI (As := [pI x4]) dL_does_200 fX4_quit ml_L_33 rfl (by decide) rfl (Nat.le_of_ble_eq_true rfl) (Nat.le_of_ble_eq_true rfl) h (fun r35 m36 h => ?_)
                      refine Wq.goto (tgt := 207) dL_does_203 (by decide) ?_
                      exact Wq.iret dL_does_207 (⟨_, rfl, rfl⟩) h
                · replace h := h.2 q30
                  by_cases q37 : (x1 &&& 15) = 8
                  · replace h := h.1 q37
                    refine Wq.tableIn (tgt := 208) dL_does_67 (by rw [q37]; decide) (by rw [q37]; decide) (by rw [q37]; rfl) (by decide) ?_
                    refine Wq.iload_n (x := x3) dL_does_208 rfl ?_
                    refine Wq.ifle (tgt := 230) dL_does_209 (by decide) (fun q38 => ?_) (fun q38 => ?_)
                    · replace h := h.1 q38
                      refine Wq.iconst (v := 0) dL_does_230 (by decide) ?_
                      exact Wq.iret dL_does_231 (⟨_, rfl, rfl⟩) h
                    · replace h := h.2 q38
                      refine Wq.aload_n (t := 10) (r := 8) (j := 0) dL_does_212 rfl ?_
                      refine Wq.iload (x := x5) dL_does_213 rfl ?_
                      refine Wq.iload_n (x := x1) dL_does_215 rfl ?_
                      refine Wq.bipush (v := 7) dL_does_216 (by decide) ?_
                      refine Wq.ishr dL_does_218 ?_
                      refine Wq.bipush (v := 10) dL_does_219 (by decide) ?_
                      refine Wq.callSI (As := [pI (x1 >>> (7 &&& 31)), pI 10]) dL_does_221 fL_low ml_L_14 rfl (Nat.le_of_ble_eq_true rfl) (Nat.le_of_ble_eq_true rfl) (suL_low h.1) (fun x41 m9 e9 => ?_)
                      obtain ⟨rfl, rfl⟩ := e9
                      replace h := h.2
                      refine Wq.callVI (As := [pI x5, pI (irm ((x1 >>> (7 &&& 31)) &&& 2147483647) (10 : Int32))]) dL_does_224 fX4_cancel ml_L_36 rfl (by decide) rfl (Nat.le_of_ble_eq_true rfl) (Nat.le_of_ble_eq_true rfl) h (fun r39 m40 h => ?_)
                      refine Wq.goto (tgt := 231) dL_does_227 (by decide) ?_
                      exact Wq.iret dL_does_231 (⟨_, rfl, rfl⟩) h
                  · replace h := h.2 q37
                    by_cases q42 : (x1 &&& 15) = 9
                    · replace h := h.1 q42
                      refine Wq.tableIn (tgt := 232) dL_does_67 (by rw [q42]; decide) (by rw [q42]; decide) (by rw [q42]; rfl) (by decide) ?_
                      refine Wq.iload (x := x6) dL_does_232 rfl ?_
                      refine Wq.iconst (v := 2) dL_does_234 (by decide) ?_
                      refine Wq.icmpne (tgt := 271) dL_does_235 (by decide) (fun q43 => ?_) (fun q43 => ?_)
                      · replace h := h.1 q43
                        refine Wq.iconst (v := 0) dL_does_271 (by decide) ?_
                        exact Wq.iret dL_does_272 (⟨_, rfl, rfl⟩) h
                      · replace h := h.2 q43
                        refine Wq.aload_n (t := 10) (r := 8) (j := 0) dL_does_238 rfl ?_
                        refine Wq.iload (x := x4) dL_does_239 rfl ?_
                        refine Wq.iconst (v := 5) dL_does_241 (by decide) ?_
                        refine Wq.callVI (As := [pI x4, pI 5]) dL_does_242 fX4_pupil ml_L_20 rfl (by decide) rfl (Nat.le_of_ble_eq_true rfl) (Nat.le_of_ble_eq_true rfl) h (fun r44 m45 h => ?_)
                        refine Wq.ifne (tgt := 271) dL_does_245 (by decide) (fun q46 => ?_) (fun q46 => ?_)
                        · replace h := h.1 q46
                          refine Wq.iconst (v := 0) dL_does_271 (by decide) ?_
                          exact Wq.iret dL_does_272 (⟨_, rfl, rfl⟩) h
                        · replace h := h.2 q46
                          refine Wq.aload_n (t := 10) (r := 8) (j := 0) dL_does_248 rfl ?_
                          refine Wq.iload (x := x4) dL_does_249 rfl ?_
                          refine Wq.iload_n (x := x1) dL_does_251 rfl ?_
                          refine Wq.bipush (v := 9) dL_does_252 (by decide) ?_
                          refine Wq.ishr dL_does_254 ?_
                          refine Wq.iconst (v := 3) dL_does_255 (by decide) ?_
                          refine Wq.iand dL_does_256 ?_
                          refine Wq.ifne (tgt := 264) dL_does_257 (by decide) (fun q47 => ?_) (fun q47 => ?_)
                          · replace h := h.1 q47
                            refine Wq.iconst (v := 0) dL_does_264 (by decide) ?_
                            refine Wq.callVI (As := [pI x4, pI 0]) dL_does_265 fX4_test ml_L_39 rfl (by decide) rfl (Nat.le_of_ble_eq_true rfl) (Nat.le_of_ble_eq_true rfl) h (fun r48 m49 h => ?_)
                            refine Wq.goto (tgt := 272) dL_does_268 (by decide) ?_
                            exact Wq.iret dL_does_272 (⟨_, rfl, rfl⟩) h
                          · replace h := h.2 q47
                            refine Wq.iconst (v := 1) dL_does_260 (by decide) ?_
                            refine Wq.goto (tgt := 265) dL_does_261 (by decide) ?_
                            refine Wq.callVI (As := [pI x4, pI 1]) dL_does_265 fX4_test ml_L_39 rfl (by decide) rfl (Nat.le_of_ble_eq_true rfl) (Nat.le_of_ble_eq_true rfl) h (fun r50 m51 h => ?_)
                            refine Wq.goto (tgt := 272) dL_does_268 (by decide) ?_
                            exact Wq.iret dL_does_272 (⟨_, rfl, rfl⟩) h
                    · replace h := h.2 q42
                      by_cases q52 : (x1 &&& 15) = 10
                      · replace h := h.1 q52
                        refine Wq.tableIn (tgt := 232) dL_does_67 (by rw [q52]; decide) (by rw [q52]; decide) (by rw [q52]; rfl) (by decide) ?_
                        refine Wq.iload (x := x6) dL_does_232 rfl ?_
                        refine Wq.iconst (v := 2) dL_does_234 (by decide) ?_
                        refine Wq.icmpne (tgt := 271) dL_does_235 (by decide) (fun q53 => ?_) (fun q53 => ?_)
                        · replace h := h.1 q53
                          refine Wq.iconst (v := 0) dL_does_271 (by decide) ?_
                          exact Wq.iret dL_does_272 (⟨_, rfl, rfl⟩) h
                        · replace h := h.2 q53
                          refine Wq.aload_n (t := 10) (r := 8) (j := 0) dL_does_238 rfl ?_
                          refine Wq.iload (x := x4) dL_does_239 rfl ?_
                          refine Wq.iconst (v := 5) dL_does_241 (by decide) ?_
                          refine Wq.callVI (As := [pI x4, pI 5]) dL_does_242 fX4_pupil ml_L_20 rfl (by decide) rfl (Nat.le_of_ble_eq_true rfl) (Nat.le_of_ble_eq_true rfl) h (fun r54 m55 h => ?_)
                          refine Wq.ifne (tgt := 271) dL_does_245 (by decide) (fun q56 => ?_) (fun q56 => ?_)
                          · replace h := h.1 q56
                            refine Wq.iconst (v := 0) dL_does_271 (by decide) ?_
                            exact Wq.iret dL_does_272 (⟨_, rfl, rfl⟩) h
                          · replace h := h.2 q56
                            refine Wq.aload_n (t := 10) (r := 8) (j := 0) dL_does_248 rfl ?_
                            refine Wq.iload (x := x4) dL_does_249 rfl ?_
                            refine Wq.iload_n (x := x1) dL_does_251 rfl ?_
                            refine Wq.bipush (v := 9) dL_does_252 (by decide) ?_
                            refine Wq.ishr dL_does_254 ?_
                            refine Wq.iconst (v := 3) dL_does_255 (by decide) ?_
                            refine Wq.iand dL_does_256 ?_
                            refine Wq.ifne (tgt := 264) dL_does_257 (by decide) (fun q57 => ?_) (fun q57 => ?_)
                            · replace h := h.1 q57
                              refine Wq.iconst (v := 0) dL_does_264 (by decide) ?_
                              refine Wq.callVI (As := [pI x4, pI 0]) dL_does_265 fX4_test ml_L_39 rfl (by decide) rfl (Nat.le_of_ble_eq_true rfl) (Nat.le_of_ble_eq_true rfl) h (fun r58 m59 h => ?_)
                              refine Wq.goto (tgt := 272) dL_does_268 (by decide) ?_
                              exact Wq.iret dL_does_272 (⟨_, rfl, rfl⟩) h
                            · replace h := h.2 q57
                              refine Wq.iconst (v := 1) dL_does_260 (by decide) ?_
                              refine Wq.goto (tgt := 265) dL_does_261 (by decide) ?_
                              refine Wq.callVI (As := [pI x4, pI 1]) dL_does_265 fX4_test ml_L_39 rfl (by decide) rfl (Nat.le_of_ble_eq_true rfl) (Nat.le_of_ble_eq_true rfl) h (fun r60 m61 h => ?_)
                              refine Wq.goto (tgt := 272) dL_does_268 (by decide) ?_
                              exact Wq.iret dL_does_272 (⟨_, rfl, rfl⟩) h
                      · replace h := h.2 q52
                        by_cases q62 : (x1 &&& 15) = 11
                        · replace h := h.1 q62
                          refine Wq.tableIn (tgt := 232) dL_does_67 (by rw [q62]; decide) (by rw [q62]; decide) (by rw [q62]; rfl) (by decide) ?_
                          refine Wq.iload (x := x6) dL_does_232 rfl ?_
                          refine Wq.iconst (v := 2) dL_does_234 (by decide) ?_
                          refine Wq.icmpne (tgt := 271) dL_does_235 (by decide) (fun q63 => ?_) (fun q63 => ?_)
                          · replace h := h.1 q63
                            refine Wq.iconst (v := 0) dL_does_271 (by decide) ?_
                            exact Wq.iret dL_does_272 (⟨_, rfl, rfl⟩) h
                          · replace h := h.2 q63
                            refine Wq.aload_n (t := 10) (r := 8) (j := 0) dL_does_238 rfl ?_
                            refine Wq.iload (x := x4) dL_does_239 rfl ?_
                            refine Wq.iconst (v := 5) dL_does_241 (by decide) ?_
                            refine Wq.callVI (As := [pI x4, pI 5]) dL_does_242 fX4_pupil ml_L_20 rfl (by decide) rfl (Nat.le_of_ble_eq_true rfl) (Nat.le_of_ble_eq_true rfl) h (fun r64 m65 h => ?_)
                            refine Wq.ifne (tgt := 271) dL_does_245 (by decide) (fun q66 => ?_) (fun q66 => ?_)
                            · replace h := h.1 q66
                              refine Wq.iconst (v := 0) dL_does_271 (by decide) ?_
                              exact Wq.iret dL_does_272 (⟨_, rfl, rfl⟩) h
                            · replace h := h.2 q66
                              refine Wq.aload_n (t := 10) (r := 8) (j := 0) dL_does_248 rfl ?_
                              refine Wq.iload (x := x4) dL_does_249 rfl ?_
                              refine Wq.iload_n (x := x1) dL_does_251 rfl ?_
                              refine Wq.bipush (v := 9) dL_does_252 (by decide) ?_
                              refine Wq.ishr dL_does_254 ?_
                              refine Wq.iconst (v := 3) dL_does_255 (by decide) ?_
                              refine Wq.iand dL_does_256 ?_
                              refine Wq.ifne (tgt := 264) dL_does_257 (by decide) (fun q67 => ?_) (fun q67 => ?_)
                              · replace h := h.1 q67
                                refine Wq.iconst (v := 0) dL_does_264 (by decide) ?_
                                refine Wq.callVI (As := [pI x4, pI 0]) dL_does_265 fX4_test ml_L_39 rfl (by decide) rfl (Nat.le_of_ble_eq_true rfl) (Nat.le_of_ble_eq_true rfl) h (fun r68 m69 h => ?_)
                                refine Wq.goto (tgt := 272) dL_does_268 (by decide) ?_
                                exact Wq.iret dL_does_272 (⟨_, rfl, rfl⟩) h
                              · replace h := h.2 q67
                                refine Wq.iconst (v := 1) dL_does_260 (by decide) ?_
                                refine Wq.goto (tgt := 265) dL_does_261 (by decide) ?_
                                refine Wq.callVI (As := [pI x4, pI 1]) dL_does_265 fX4_test ml_L_39 rfl (by decide) rfl (Nat.le_of_ble_eq_true rfl) (Nat.le_of_ble_eq_true rfl) h (fun r70 m71 h => ?_)
                                refine Wq.goto (tgt := 272) dL_does_268 (by decide) ?_
                                exact Wq.iret dL_does_272 (⟨_, rfl, rfl⟩) h
                        · replace h := h.2 q62
                          by_cases q72 : (x1 &&& 15) = 12
                          · replace h := h.1 q72
                            refine Wq.tableIn (tgt := 273) dL_does_67 (by rw [q72]; decide) (by rw [q72]; decide) (by rw [q72]; rfl) (by decide) ?_
                            refine Wq.iload_n (x := x1) dL_does_273 rfl ?_
                            refine Wq.iconst (v := 4) dL_does_274 (by decide) ?_
                            refine Wq.ishr dL_does_275 ?_
                            refine Wq.iconst (v := 4) dL_does_276 (by decide) ?_
                            refine Wq.callSI (As := [pI (x1 >>> (4 &&& 31)), pI 4]) dL_does_277 fL_low ml_L_14 rfl (Nat.le_of_ble_eq_true rfl) (Nat.le_of_ble_eq_true rfl) (suL_low h.1) (fun x79 m9 e9 => ?_)
                            obtain ⟨rfl, rfl⟩ := e9
                            replace h := h.2
                            refine Wq.istore (ls2 := [some (pO 10 8 0), some (pI x1), some (pI x2), some (pI x3), some (pI x4), some (pI x5), some (pI x6), some (pI (irm ((x1 >>> (4 &&& 31)) &&& 2147483647) (4 : Int32)))]) dL_does_280 (by decide) rfl ?_
                            refine Wq.aload_n (t := 10) (r := 8) (j := 0) dL_does_282 rfl ?_
                            refine Wq.iload (x := (irm ((x1 >>> (4 &&& 31)) &&& 2147483647) (4 : Int32))) dL_does_283 rfl ?_
                            refine Wq.iload (x := (irm ((x1 >>> (4 &&& 31)) &&& 2147483647) (4 : Int32))) dL_does_285 rfl ?_
                            refine Wq.iconst (v := 1) dL_does_287 (by decide) ?_
                            refine Wq.icmpne (tgt := 300) dL_does_288 (by decide) (fun q73 => ?_) (fun q73 => ?_)
                            · replace h := h.1 q73
                              refine Wq.iload_n (x := x1) dL_does_300 rfl ?_
                              refine Wq.bipush (v := 6) dL_does_301 (by decide) ?_
                              refine Wq.ishr dL_does_303 ?_
                              refine Wq.bipush (v := 10) dL_does_304 (by decide) ?_
                              refine Wq.callSI (As := [pI (x1 >>> (6 &&& 31)), pI 10]) dL_does_306 fL_low ml_L_14 rfl (Nat.le_of_ble_eq_true rfl) (Nat.le_of_ble_eq_true rfl) (suL_low h.1) (fun x76 m9 e9 => ?_)
                              obtain ⟨rfl, rfl⟩ := e9
                              replace h := h.2
                              refine Wq.callVI (As := [pI (irm ((x1 >>> (4 &&& 31)) &&& 2147483647) (4 : Int32)), pI (irm ((x1 >>> (6 &&& 31)) &&& 2147483647) (10 : Int32))]) dL_does_309 fX4_set ml_L_43 rfl (by decide) rfl (Nat.le_of_ble_eq_true rfl) (Nat.le_of_ble_eq_true rfl) h (fun r74 m75 h => ?_)
                              exact Wq.iret dL_does_312 (⟨_, rfl, rfl⟩) h
                            · replace h := h.2 q73
                              refine Wq.iload_n (x := x1) dL_does_291 rfl ?_
                              refine Wq.bipush (v := 6) dL_does_292 (by decide) ?_
                              refine Wq.ishr dL_does_294 ?_
                              refine Wq.iconst (v := 1) dL_does_295 (by decide) ?_
                              refine Wq.iand dL_does_296 ?_
                              refine Wq.goto (tgt := 309) dL_does_297 (by decide) ?_
                              refine Wq.callVI (As := [pI (irm ((x1 >>> (4 &&& 31)) &&& 2147483647) (4 : Int32)), pI ((x1 >>> (6 &&& 31)) &&& 1)]) dL_does_309 fX4_set ml_L_43 rfl (by decide) rfl (Nat.le_of_ble_eq_true rfl) (Nat.le_of_ble_eq_true rfl) h (fun r77 m78 h => ?_)
                              exact Wq.iret dL_does_312 (⟨_, rfl, rfl⟩) h
                          · replace h := h.2 q72
                            refine Wq.tableOut (tgt := 313) dL_does_67 (sw_out13 q1 q5 q9 q14 q18 q22 q26 q30 q37 q42 q52 q62 q72) (by decide) ?_
                            refine Wq.aload_n (t := 10) (r := 8) (j := 0) dL_does_313 rfl ?_
                            refine Wq.callVI (As := []) dL_does_314 fX4_next ml_L_46 rfl (by decide) rfl (Nat.le_of_ble_eq_true rfl) (Nat.le_of_ble_eq_true rfl) h (fun r80 m81 h => ?_)
                            exact Wq.iret dL_does_317 (⟨_, rfl, rfl⟩) h
set_option maxHeartbeats 4000000 in
set_option maxRecDepth 20000 in
theorem sgL_isAskSo {g : GG} {d : Nat} {c n : Nat} {m : PM} {Q : Ou → PM → Nat → Nat → Prop} {x1 : Int32} (h : Wp g (d + 6) MX4_pupil 0 [some (pO 10 8 0), some (pI x1), some (pI 0)] [] m (cI fun r1 m2 => ((r1 = 0 → Wp g (d + 6) MX4_pupil 0 [some (pO 10 8 0), some (pI x1), some (pI 10)] [] m2 (cI fun r4 m5 => Wp g (d + 6) MX4_ask 0 [some (pO 10 8 0), some (pI x1)] [] m5 (cI fun r6 m7 => Wq g (d + 7) ML_isAskSo c n 25 [some (pO 10 8 0), some (pI x1), some (pI r4), some (pI r6), none, none, none] [] m7 Q))) ∧ (¬ r1 = 0 → Q (.inl (some (pI 1))) m2 c n)))) : Wq g (d + 7) ML_isAskSo c n 0 [some (pO 10 8 0), some (pI x1)] [] m Q := by
  refine Wq.few (ls' := [some (pO 10 8 0), some (pI x1), none, none, none, none, none]) ⟨rfl, ⟨rfl, trivial⟩⟩ ?_
  refine Wq.aload_n (t := 10) (r := 8) (j := 0) dL_isAskSo_0 rfl ?_
  refine Wq.iload_n (x := x1) dL_isAskSo_1 rfl ?_
  refine Wq.iconst (v := 0) dL_isAskSo_2 (by decide) ?_
  refine Wq.callVI (As := [pI x1, pI 0]) dL_isAskSo_3 fX4_pupil ml_L_20 rfl (by decide) rfl (Nat.le_of_ble_eq_true rfl) (Nat.le_of_ble_eq_true rfl) h (fun r1 m2 h => ?_)
  refine Wq.ifeq (tgt := 11) dL_isAskSo_6 (by decide) (fun q3 => ?_) (fun q3 => ?_)
  · replace h := h.1 q3
    refine Wq.aload_n (t := 10) (r := 8) (j := 0) dL_isAskSo_11 rfl ?_
    refine Wq.iload_n (x := x1) dL_isAskSo_12 rfl ?_
    refine Wq.bipush (v := 10) dL_isAskSo_13 (by decide) ?_
    refine Wq.callVI (As := [pI x1, pI 10]) dL_isAskSo_15 fX4_pupil ml_L_20 rfl (by decide) rfl (Nat.le_of_ble_eq_true rfl) (Nat.le_of_ble_eq_true rfl) h (fun r4 m5 h => ?_)
    refine Wq.istore_n (ls2 := [some (pO 10 8 0), some (pI x1), some (pI r4), none, none, none, none]) dL_isAskSo_18 (by decide) rfl ?_
    refine Wq.aload_n (t := 10) (r := 8) (j := 0) dL_isAskSo_19 rfl ?_
    refine Wq.iload_n (x := x1) dL_isAskSo_20 rfl ?_
    refine Wq.callVI (As := [pI x1]) dL_isAskSo_21 fX4_ask ml_L_30 rfl (by decide) rfl (Nat.le_of_ble_eq_true rfl) (Nat.le_of_ble_eq_true rfl) h (fun r6 m7 h => ?_)
    refine Wq.istore_n (ls2 := [some (pO 10 8 0), some (pI x1), some (pI r4), some (pI r6), none, none, none]) dL_isAskSo_24 (by decide) rfl ?_
    exact h
  · replace h := h.2 q3
    refine Wq.iconst (v := 1) dL_isAskSo_9 (by decide) ?_
    exact Wq.iret dL_isAskSo_10 (⟨_, rfl, by decide⟩) h
set_option maxHeartbeats 4000000 in
set_option maxRecDepth 20000 in
theorem sgL_isAskSo_25 {g : GG} {d : Nat} {c n : Nat} {m : PM} {Q : Ou → PM → Nat → Nat → Prop} {x1 : Int32} {x2 : Int32} {x3 : Int32} (h : Wp g (d + 6) MX4_pupil 0 [some (pO 10 8 0), some (pI x1), some (pI 5)] [] m (cI fun r1 m2 => ((¬ x3 = r1 → Wq g (d + 7) ML_isAskSo c n 73 [some (pO 10 8 0), some (pI x1), some (pI x2), some (pI x3), some (pI 0), none, none] [] m2 Q) ∧ (x3 = r1 → Wp g (d + 6) MX4_pupil 0 [some (pO 10 8 0), some (pI x1), some (pI 10)] [] m2 (cI fun r4 m5 => Wp g (d + 6) MX4_setting 0 [some (pO 10 8 0), some (pI 3)] [] m5 (cI fun r6 m7 => ((¬ r4 = (x2 + r6) → Wq g (d + 7) ML_isAskSo c n 73 [some (pO 10 8 0), some (pI x1), some (pI x2), some (pI x3), some (pI 0), none, none] [] m7 Q) ∧ (r4 = (x2 + r6) → ((0 ≤ x3 → Wq g (d + 7) ML_isAskSo c n 73 [some (pO 10 8 0), some (pI x1), some (pI x2), some (pI x3), some (pI 1), none, none] [] m7 Q) ∧ (¬ 0 ≤ x3 → Wp g (d + 6) MX4_earliest 0 [some (pO 10 8 0), some (pI x1), some (pI 0)] [] m7 (cI fun r10 m11 => ((¬ r10 = (-1) → Wq g (d + 7) ML_isAskSo c n 73 [some (pO 10 8 0), some (pI x1), some (pI x2), some (pI x3), some (pI 0), none, none] [] m11 Q) ∧ (r10 = (-1) → Wq g (d + 7) ML_isAskSo c n 73 [some (pO 10 8 0), some (pI x1), some (pI x2), some (pI x3), some (pI 1), none, none] [] m11 Q))))))))))))) : Wq g (d + 7) ML_isAskSo c n 25 [some (pO 10 8 0), some (pI x1), some (pI x2), some (pI x3), none, none, none] [] m Q := by
  refine Wq.iload_n (x := x3) dL_isAskSo_25 rfl ?_
  refine Wq.aload_n (t := 10) (r := 8) (j := 0) dL_isAskSo_26 rfl ?_
  refine Wq.iload_n (x := x1) dL_isAskSo_27 rfl ?_
  refine Wq.iconst (v := 5) dL_isAskSo_28 (by decide) ?_
  refine Wq.callVI (As := [pI x1, pI 5]) dL_isAskSo_29 fX4_pupil ml_L_20 rfl (by decide) rfl (Nat.le_of_ble_eq_true rfl) (Nat.le_of_ble_eq_true rfl) h (fun r1 m2 h => ?_)
  refine Wq.icmpne (tgt := 70) dL_isAskSo_32 (by decide) (fun q3 => ?_) (fun q3 => ?_)
  · replace h := h.1 q3
    refine Wq.iconst (v := 0) dL_isAskSo_70 (by decide) ?_
    refine Wq.istore (ls2 := [some (pO 10 8 0), some (pI x1), some (pI x2), some (pI x3), some (pI 0), none, none]) dL_isAskSo_71 (by decide) rfl ?_
    exact h
  · replace h := h.2 q3
    refine Wq.aload_n (t := 10) (r := 8) (j := 0) dL_isAskSo_35 rfl ?_
    refine Wq.iload_n (x := x1) dL_isAskSo_36 rfl ?_
    refine Wq.bipush (v := 10) dL_isAskSo_37 (by decide) ?_
    refine Wq.callVI (As := [pI x1, pI 10]) dL_isAskSo_39 fX4_pupil ml_L_20 rfl (by decide) rfl (Nat.le_of_ble_eq_true rfl) (Nat.le_of_ble_eq_true rfl) h (fun r4 m5 h => ?_)
    refine Wq.iload_n (x := x2) dL_isAskSo_42 rfl ?_
    refine Wq.aload_n (t := 10) (r := 8) (j := 0) dL_isAskSo_43 rfl ?_
    refine Wq.iconst (v := 3) dL_isAskSo_44 (by decide) ?_
    refine Wq.callVI (As := [pI 3]) dL_isAskSo_45 fX4_setting ml_L_62 rfl (by decide) rfl (Nat.le_of_ble_eq_true rfl) (Nat.le_of_ble_eq_true rfl) h (fun r6 m7 h => ?_)
    refine Wq.iadd dL_isAskSo_48 ?_
    refine Wq.icmpne (tgt := 70) dL_isAskSo_49 (by decide) (fun q8 => ?_) (fun q8 => ?_)
    · replace h := h.1 q8
      refine Wq.iconst (v := 0) dL_isAskSo_70 (by decide) ?_
      refine Wq.istore (ls2 := [some (pO 10 8 0), some (pI x1), some (pI x2), some (pI x3), some (pI 0), none, none]) dL_isAskSo_71 (by decide) rfl ?_
      exact h
    · replace h := h.2 q8
      refine Wq.iload_n (x := x3) dL_isAskSo_52 rfl ?_
      refine Wq.ifge (tgt := 66) dL_isAskSo_53 (by decide) (fun q9 => ?_) (fun q9 => ?_)
      · replace h := h.1 q9
        refine Wq.iconst (v := 1) dL_isAskSo_66 (by decide) ?_
        refine Wq.goto (tgt := 71) dL_isAskSo_67 (by decide) ?_
        refine Wq.istore (ls2 := [some (pO 10 8 0), some (pI x1), some (pI x2), some (pI x3), some (pI 1), none, none]) dL_isAskSo_71 (by decide) rfl ?_
        exact h
      · replace h := h.2 q9
        refine Wq.aload_n (t := 10) (r := 8) (j := 0) dL_isAskSo_56 rfl ?_
        refine Wq.iload_n (x := x1) dL_isAskSo_57 rfl ?_
        refine Wq.iconst (v := 0) dL_isAskSo_58 (by decide) ?_
        refine Wq.callVI (As := [pI x1, pI 0]) dL_isAskSo_59 fX4_earliest ml_L_65 rfl (by decide) rfl (Nat.le_of_ble_eq_true rfl) (Nat.le_of_ble_eq_true rfl) h (fun r10 m11 h => ?_)
        refine Wq.iconst (v := (-1)) dL_isAskSo_62 (by decide) ?_
        refine Wq.icmpne (tgt := 70) dL_isAskSo_63 (by decide) (fun q12 => ?_) (fun q12 => ?_)
        · replace h := h.1 q12
          refine Wq.iconst (v := 0) dL_isAskSo_70 (by decide) ?_
          refine Wq.istore (ls2 := [some (pO 10 8 0), some (pI x1), some (pI x2), some (pI x3), some (pI 0), none, none]) dL_isAskSo_71 (by decide) rfl ?_
          exact h
        · replace h := h.2 q12
          refine Wq.iconst (v := 1) dL_isAskSo_66 (by decide) ?_
          refine Wq.goto (tgt := 71) dL_isAskSo_67 (by decide) ?_
          refine Wq.istore (ls2 := [some (pO 10 8 0), some (pI x1), some (pI x2), some (pI x3), some (pI 1), none, none]) dL_isAskSo_71 (by decide) rfl ?_
          exact h
set_option maxHeartbeats 4000000 in
set_option maxRecDepth 20000 in
theorem sgL_isAskSo_73 {g : GG} {d : Nat} {c n : Nat} {m : PM} {Q : Ou → PM → Nat → Nat → Prop} {x1 : Int32} {x2 : Int32} {x3 : Int32} {x4 : Int32} (h : Wp g (d + 6) MX4_quit 0 [some (pO 10 8 0), some (pI x1)] [] m (cI fun r1 m2 => Wq g (d + 7) ML_isAskSo c n 80 [some (pO 10 8 0), some (pI x1), some (pI x2), some (pI x3), some (pI x4), some (pI r1), none] [] m2 Q)) : Wq g (d + 7) ML_isAskSo c n 73 [some (pO 10 8 0), some (pI x1), some (pI x2), some (pI x3), some (pI x4), none, none] [] m Q := by
  refine Wq.aload_n (t := 10) (r := 8) (j := 0) dL_isAskSo_73 rfl ?_
  refine Wq.iload_n (x := x1) dL_isAskSo_74 rfl ?_
  refine Wq.callVI (As := [pI x1]) dL_isAskSo_75 fX4_quit ml_L_33 rfl (by decide) rfl (Nat.le_of_ble_eq_true rfl) (Nat.le_of_ble_eq_true rfl) h (fun r1 m2 h => ?_)
  refine Wq.istore (ls2 := [some (pO 10 8 0), some (pI x1), some (pI x2), some (pI x3), some (pI x4), some (pI r1), none]) dL_isAskSo_78 (by decide) rfl ?_
  exact h
set_option maxHeartbeats 4000000 in
set_option maxRecDepth 20000 in
theorem sgL_isAskSo_80 {g : GG} {d : Nat} {c n : Nat} {m : PM} {Q : Ou → PM → Nat → Nat → Prop} {x1 : Int32} {x2 : Int32} {x3 : Int32} {x4 : Int32} {x5 : Int32} (h : ((x4 = 0 → Wq g (d + 7) ML_isAskSo c n 128 [some (pO 10 8 0), some (pI x1), some (pI x2), none, some (pI 0), none, none] [] m Q) ∧ (¬ x4 = 0 → ((x3 < 0 → Wp g (d + 6) MX4_setting 0 [some (pO 10 8 0), some (pI 3)] [] m (cI fun r3 m4 => ((¬ x5 = r3 → Wq g (d + 7) ML_isAskSo c n 128 [some (pO 10 8 0), some (pI x1), some (pI x2), none, some (pI 0), none, none] [] m4 Q) ∧ (x5 = r3 → Wp g (d + 6) MX4_pupil 0 [some (pO 10 8 0), some (pI x1), some (pI 0)] [] m4 (cI fun r6 m7 => ((¬ r6 = 0 → Wq g (d + 7) ML_isAskSo c n 128 [some (pO 10 8 0), some (pI x1), some (pI x2), none, some (pI 0), none, none] [] m7 Q) ∧ (r6 = 0 → Wq g (d + 7) ML_isAskSo c n 128 [some (pO 10 8 0), some (pI x1), some (pI x2), none, some (pI 1), none, none] [] m7 Q))))))) ∧ (¬ x3 < 0 → Wp g (d + 6) MX4_setting 0 [some (pO 10 8 0), some (pI 2)] [] m (cI fun r9 m10 => ((r9 ≤ x3 → Wp g (d + 6) MX4_setting 0 [some (pO 10 8 0), some (pI 3)] [] m10 (cI fun r12 m13 => ((¬ x5 = r12 → Wq g (d + 7) ML_isAskSo c n 128 [some (pO 10 8 0), some (pI x1), some (pI x2), none, some (pI 0), none, none] [] m13 Q) ∧ (x5 = r12 → Wp g (d + 6) MX4_pupil 0 [some (pO 10 8 0), some (pI x1), some (pI 0)] [] m13 (cI fun r15 m16 => ((¬ r15 = 0 → Wq g (d + 7) ML_isAskSo c n 128 [some (pO 10 8 0), some (pI x1), some (pI x2), none, some (pI 0), none, none] [] m16 Q) ∧ (r15 = 0 → Wq g (d + 7) ML_isAskSo c n 128 [some (pO 10 8 0), some (pI x1), some (pI x2), none, some (pI 1), none, none] [] m16 Q))))))) ∧ (¬ r9 ≤ x3 → ((¬ x5 = 0 → Wq g (d + 7) ML_isAskSo c n 128 [some (pO 10 8 0), some (pI x1), some (pI x2), none, some (pI 0), none, none] [] m10 Q) ∧ (x5 = 0 → Wp g (d + 6) MX4_pupil 0 [some (pO 10 8 0), some (pI x1), some (pI 0)] [] m10 (cI fun r19 m20 => ((¬ r19 = 0 → Wq g (d + 7) ML_isAskSo c n 128 [some (pO 10 8 0), some (pI x1), some (pI x2), none, some (pI 0), none, none] [] m20 Q) ∧ (r19 = 0 → Wq g (d + 7) ML_isAskSo c n 128 [some (pO 10 8 0), some (pI x1), some (pI x2), none, some (pI 1), none, none] [] m20 Q))))))))))))) : Wq g (d + 7) ML_isAskSo c n 80 [some (pO 10 8 0), some (pI x1), some (pI x2), some (pI x3), some (pI x4), some (pI x5), none] [] m Q := by
  refine Wq.iload (x := x4) dL_isAskSo_80 rfl ?_
  refine Wq.ifeq (tgt := 125) dL_isAskSo_82 (by decide) (fun q1 => ?_) (fun q1 => ?_)
  · replace h := h.1 q1
    refine Wq.iconst (v := 0) dL_isAskSo_125 (by decide) ?_
    refine Wq.istore (ls2 := [some (pO 10 8 0), some (pI x1), some (pI x2), some (pI x3), some (pI 0), some (pI x5), none]) dL_isAskSo_126 (by decide) rfl ?_
    refine Wq.few (ls' := [some (pO 10 8 0), some (pI x1), some (pI x2), none, some (pI 0), none, none]) ⟨rfl, ⟨rfl, ⟨rfl, ⟨rfl, trivial⟩⟩⟩⟩ ?_
    exact h
  · replace h := h.2 q1
    refine Wq.iload (x := x5) dL_isAskSo_85 rfl ?_
    refine Wq.iload_n (x := x3) dL_isAskSo_87 rfl ?_
    refine Wq.iflt (tgt := 104) dL_isAskSo_88 (by decide) (fun q2 => ?_) (fun q2 => ?_)
    · replace h := h.1 q2
      refine Wq.aload_n (t := 10) (r := 8) (j := 0) dL_isAskSo_104 rfl ?_
      refine Wq.iconst (v := 3) dL_isAskSo_105 (by decide) ?_
      refine Wq.callVI (As := [pI 3]) dL_isAskSo_106 fX4_setting ml_L_62 rfl (by decide) rfl (Nat.le_of_ble_eq_true rfl) (Nat.le_of_ble_eq_true rfl) h (fun r3 m4 h => ?_)
      refine Wq.icmpne (tgt := 125) dL_isAskSo_109 (by decide) (fun q5 => ?_) (fun q5 => ?_)
      · replace h := h.1 q5
        refine Wq.iconst (v := 0) dL_isAskSo_125 (by decide) ?_
        refine Wq.istore (ls2 := [some (pO 10 8 0), some (pI x1), some (pI x2), some (pI x3), some (pI 0), some (pI x5), none]) dL_isAskSo_126 (by decide) rfl ?_
        refine Wq.few (ls' := [some (pO 10 8 0), some (pI x1), some (pI x2), none, some (pI 0), none, none]) ⟨rfl, ⟨rfl, ⟨rfl, ⟨rfl, trivial⟩⟩⟩⟩ ?_
        exact h
      · replace h := h.2 q5
        refine Wq.aload_n (t := 10) (r := 8) (j := 0) dL_isAskSo_112 rfl ?_
        refine Wq.iload_n (x := x1) dL_isAskSo_113 rfl ?_
        refine Wq.iconst (v := 0) dL_isAskSo_114 (by decide) ?_
        refine Wq.callVI (As := [pI x1, pI 0]) dL_isAskSo_115 fX4_pupil ml_L_20 rfl (by decide) rfl (Nat.le_of_ble_eq_true rfl) (Nat.le_of_ble_eq_true rfl) h (fun r6 m7 h => ?_)
        refine Wq.ifne (tgt := 125) dL_isAskSo_118 (by decide) (fun q8 => ?_) (fun q8 => ?_)
        · replace h := h.1 q8
          refine Wq.iconst (v := 0) dL_isAskSo_125 (by decide) ?_
          refine Wq.istore (ls2 := [some (pO 10 8 0), some (pI x1), some (pI x2), some (pI x3), some (pI 0), some (pI x5), none]) dL_isAskSo_126 (by decide) rfl ?_
          refine Wq.few (ls' := [some (pO 10 8 0), some (pI x1), some (pI x2), none, some (pI 0), none, none]) ⟨rfl, ⟨rfl, ⟨rfl, ⟨rfl, trivial⟩⟩⟩⟩ ?_
          exact h
        · replace h := h.2 q8
          refine Wq.iconst (v := 1) dL_isAskSo_121 (by decide) ?_
          refine Wq.goto (tgt := 126) dL_isAskSo_122 (by decide) ?_
          refine Wq.istore (ls2 := [some (pO 10 8 0), some (pI x1), some (pI x2), some (pI x3), some (pI 1), some (pI x5), none]) dL_isAskSo_126 (by decide) rfl ?_
          refine Wq.few (ls' := [some (pO 10 8 0), some (pI x1), some (pI x2), none, some (pI 1), none, none]) ⟨rfl, ⟨rfl, ⟨rfl, ⟨rfl, trivial⟩⟩⟩⟩ ?_
          exact h
    · replace h := h.2 q2
      refine Wq.iload_n (x := x3) dL_isAskSo_91 rfl ?_
      refine Wq.aload_n (t := 10) (r := 8) (j := 0) dL_isAskSo_92 rfl ?_
      refine Wq.iconst (v := 2) dL_isAskSo_93 (by decide) ?_
      refine Wq.callVI (As := [pI 2]) dL_isAskSo_94 fX4_setting ml_L_62 rfl (by decide) rfl (Nat.le_of_ble_eq_true rfl) (Nat.le_of_ble_eq_true rfl) h (fun r9 m10 h => ?_)
      refine Wq.icmpge (tgt := 104) dL_isAskSo_97 (by decide) (fun q11 => ?_) (fun q11 => ?_)
      · replace h := h.1 q11
        refine Wq.aload_n (t := 10) (r := 8) (j := 0) dL_isAskSo_104 rfl ?_
        refine Wq.iconst (v := 3) dL_isAskSo_105 (by decide) ?_
        refine Wq.callVI (As := [pI 3]) dL_isAskSo_106 fX4_setting ml_L_62 rfl (by decide) rfl (Nat.le_of_ble_eq_true rfl) (Nat.le_of_ble_eq_true rfl) h (fun r12 m13 h => ?_)
        refine Wq.icmpne (tgt := 125) dL_isAskSo_109 (by decide) (fun q14 => ?_) (fun q14 => ?_)
        · replace h := h.1 q14
          refine Wq.iconst (v := 0) dL_isAskSo_125 (by decide) ?_
          refine Wq.istore (ls2 := [some (pO 10 8 0), some (pI x1), some (pI x2), some (pI x3), some (pI 0), some (pI x5), none]) dL_isAskSo_126 (by decide) rfl ?_
          refine Wq.few (ls' := [some (pO 10 8 0), some (pI x1), some (pI x2), none, some (pI 0), none, none]) ⟨rfl, ⟨rfl, ⟨rfl, ⟨rfl, trivial⟩⟩⟩⟩ ?_
          exact h
        · replace h := h.2 q14
          refine Wq.aload_n (t := 10) (r := 8) (j := 0) dL_isAskSo_112 rfl ?_
          refine Wq.iload_n (x := x1) dL_isAskSo_113 rfl ?_
          refine Wq.iconst (v := 0) dL_isAskSo_114 (by decide) ?_
          refine Wq.callVI (As := [pI x1, pI 0]) dL_isAskSo_115 fX4_pupil ml_L_20 rfl (by decide) rfl (Nat.le_of_ble_eq_true rfl) (Nat.le_of_ble_eq_true rfl) h (fun r15 m16 h => ?_)
          refine Wq.ifne (tgt := 125) dL_isAskSo_118 (by decide) (fun q17 => ?_) (fun q17 => ?_)
          · replace h := h.1 q17
            refine Wq.iconst (v := 0) dL_isAskSo_125 (by decide) ?_
            refine Wq.istore (ls2 := [some (pO 10 8 0), some (pI x1), some (pI x2), some (pI x3), some (pI 0), some (pI x5), none]) dL_isAskSo_126 (by decide) rfl ?_
            refine Wq.few (ls' := [some (pO 10 8 0), some (pI x1), some (pI x2), none, some (pI 0), none, none]) ⟨rfl, ⟨rfl, ⟨rfl, ⟨rfl, trivial⟩⟩⟩⟩ ?_
            exact h
          · replace h := h.2 q17
            refine Wq.iconst (v := 1) dL_isAskSo_121 (by decide) ?_
            refine Wq.goto (tgt := 126) dL_isAskSo_122 (by decide) ?_
            refine Wq.istore (ls2 := [some (pO 10 8 0), some (pI x1), some (pI x2), some (pI x3), some (pI 1), some (pI x5), none]) dL_isAskSo_126 (by decide) rfl ?_
            refine Wq.few (ls' := [some (pO 10 8 0), some (pI x1), some (pI x2), none, some (pI 1), none, none]) ⟨rfl, ⟨rfl, ⟨rfl, ⟨rfl, trivial⟩⟩⟩⟩ ?_
            exact h
      · replace h := h.2 q11
        refine Wq.iconst (v := 0) dL_isAskSo_100 (by decide) ?_
        refine Wq.goto (tgt := 109) dL_isAskSo_101 (by decide) ?_
        refine Wq.icmpne (tgt := 125) dL_isAskSo_109 (by decide) (fun q18 => ?_) (fun q18 => ?_)
        · replace h := h.1 q18
          refine Wq.iconst (v := 0) dL_isAskSo_125 (by decide) ?_
          refine Wq.istore (ls2 := [some (pO 10 8 0), some (pI x1), some (pI x2), some (pI x3), some (pI 0), some (pI x5), none]) dL_isAskSo_126 (by decide) rfl ?_
          refine Wq.few (ls' := [some (pO 10 8 0), some (pI x1), some (pI x2), none, some (pI 0), none, none]) ⟨rfl, ⟨rfl, ⟨rfl, ⟨rfl, trivial⟩⟩⟩⟩ ?_
          exact h
        · replace h := h.2 q18
          refine Wq.aload_n (t := 10) (r := 8) (j := 0) dL_isAskSo_112 rfl ?_
          refine Wq.iload_n (x := x1) dL_isAskSo_113 rfl ?_
          refine Wq.iconst (v := 0) dL_isAskSo_114 (by decide) ?_
          refine Wq.callVI (As := [pI x1, pI 0]) dL_isAskSo_115 fX4_pupil ml_L_20 rfl (by decide) rfl (Nat.le_of_ble_eq_true rfl) (Nat.le_of_ble_eq_true rfl) h (fun r19 m20 h => ?_)
          refine Wq.ifne (tgt := 125) dL_isAskSo_118 (by decide) (fun q21 => ?_) (fun q21 => ?_)
          · replace h := h.1 q21
            refine Wq.iconst (v := 0) dL_isAskSo_125 (by decide) ?_
            refine Wq.istore (ls2 := [some (pO 10 8 0), some (pI x1), some (pI x2), some (pI x3), some (pI 0), some (pI x5), none]) dL_isAskSo_126 (by decide) rfl ?_
            refine Wq.few (ls' := [some (pO 10 8 0), some (pI x1), some (pI x2), none, some (pI 0), none, none]) ⟨rfl, ⟨rfl, ⟨rfl, ⟨rfl, trivial⟩⟩⟩⟩ ?_
            exact h
          · replace h := h.2 q21
            refine Wq.iconst (v := 1) dL_isAskSo_121 (by decide) ?_
            refine Wq.goto (tgt := 126) dL_isAskSo_122 (by decide) ?_
            refine Wq.istore (ls2 := [some (pO 10 8 0), some (pI x1), some (pI x2), some (pI x3), some (pI 1), some (pI x5), none]) dL_isAskSo_126 (by decide) rfl ?_
            refine Wq.few (ls' := [some (pO 10 8 0), some (pI x1), some (pI x2), none, some (pI 1), none, none]) ⟨rfl, ⟨rfl, ⟨rfl, ⟨rfl, trivial⟩⟩⟩⟩ ?_
            exact h
set_option maxHeartbeats 4000000 in
set_option maxRecDepth 20000 in
theorem sgL_isAskSo_128 {g : GG} {d : Nat} {c n : Nat} {m : PM} {Q : Ou → PM → Nat → Nat → Prop} {x1 : Int32} {x2 : Int32} {x4 : Int32} (h : Wp g (d + 6) MX4_undo 0 [some (pO 10 8 0)] [] m (cI fun r1 m2 => Wp g (d + 6) MX4_undo 0 [some (pO 10 8 0)] [] m2 (cI fun r3 m4 => Wq g (d + 7) ML_isAskSo c n 140 [some (pO 10 8 0), some (pI x1), some (pI x2), none, some (pI x4), none, some (pI r3)] [] m4 Q))) : Wq g (d + 7) ML_isAskSo c n 128 [some (pO 10 8 0), some (pI x1), some (pI x2), none, some (pI x4), none, none] [] m Q := by
  refine Wq.aload_n (t := 10) (r := 8) (j := 0) dL_isAskSo_128 rfl ?_
  refine Wq.callVI (As := []) dL_isAskSo_129 fX4_undo ml_L_59 rfl (by decide) rfl (Nat.le_of_ble_eq_true rfl) (Nat.le_of_ble_eq_true rfl) h (fun r1 m2 h => ?_)
  refine Wq.istore (ls2 := [some (pO 10 8 0), some (pI x1), some (pI x2), none, some (pI x4), none, some (pI r1)]) dL_isAskSo_132 (by decide) rfl ?_
  refine Wq.aload_n (t := 10) (r := 8) (j := 0) dL_isAskSo_134 rfl ?_
  refine Wq.callVI (As := []) dL_isAskSo_135 fX4_undo ml_L_59 rfl (by decide) rfl (Nat.le_of_ble_eq_true rfl) (Nat.le_of_ble_eq_true rfl) h (fun r3 m4 h => ?_)
  refine Wq.istore (ls2 := [some (pO 10 8 0), some (pI x1), some (pI x2), none, some (pI x4), none, some (pI r3)]) dL_isAskSo_138 (by decide) rfl ?_
  exact h
set_option maxHeartbeats 4000000 in
set_option maxRecDepth 20000 in
theorem sgL_isAskSo_140 {g : GG} {d : Nat} {c n : Nat} {m : PM} {Q : Ou → PM → Nat → Nat → Prop} {x1 : Int32} {x2 : Int32} {x4 : Int32} {x6 : Int32} (h : ((x4 = 0 → Q (.inl (some (pI 0))) m c n) ∧ (¬ x4 = 0 → ((x6 < 0 → Q (.inl (some (pI 0))) m c n) ∧ (¬ x6 < 0 → Wp g (d + 6) MX4_pupil 0 [some (pO 10 8 0), some (pI x1), some (pI 10)] [] m (cI fun r3 m4 => ((¬ r3 = x2 → Q (.inl (some (pI 0))) m4 c n) ∧ (r3 = x2 → Q (.inl (some (pI 1))) m4 c n)))))))) : Wq g (d + 7) ML_isAskSo c n 140 [some (pO 10 8 0), some (pI x1), some (pI x2), none, some (pI x4), none, some (pI x6)] [] m Q := by
  refine Wq.iload (x := x4) dL_isAskSo_140 rfl ?_
  refine Wq.ifeq (tgt := 165) dL_isAskSo_142 (by decide) (fun q1 => ?_) (fun q1 => ?_)
  · replace h := h.1 q1
    refine Wq.iconst (v := 0) dL_isAskSo_165 (by decide) ?_
    exact Wq.iret dL_isAskSo_166 (⟨_, rfl, by decide⟩) h
  · replace h := h.2 q1
    refine Wq.iload (x := x6) dL_isAskSo_145 rfl ?_
    refine Wq.iflt (tgt := 165) dL_isAskSo_147 (by decide) (fun q2 => ?_) (fun q2 => ?_)
    · replace h := h.1 q2
      refine Wq.iconst (v := 0) dL_isAskSo_165 (by decide) ?_
      exact Wq.iret dL_isAskSo_166 (⟨_, rfl, by decide⟩) h
    · replace h := h.2 q2
      refine Wq.aload_n (t := 10) (r := 8) (j := 0) dL_isAskSo_150 rfl ?_
      refine Wq.iload_n (x := x1) dL_isAskSo_151 rfl ?_
      refine Wq.bipush (v := 10) dL_isAskSo_152 (by decide) ?_
      refine Wq.callVI (As := [pI x1, pI 10]) dL_isAskSo_154 fX4_pupil ml_L_20 rfl (by decide) rfl (Nat.le_of_ble_eq_true rfl) (Nat.le_of_ble_eq_true rfl) h (fun r3 m4 h => ?_)
      refine Wq.iload_n (x := x2) dL_isAskSo_157 rfl ?_
      refine Wq.icmpne (tgt := 165) dL_isAskSo_158 (by decide) (fun q5 => ?_) (fun q5 => ?_)
      · replace h := h.1 q5
        refine Wq.iconst (v := 0) dL_isAskSo_165 (by decide) ?_
        exact Wq.iret dL_isAskSo_166 (⟨_, rfl, by decide⟩) h
      · replace h := h.2 q5
        refine Wq.iconst (v := 1) dL_isAskSo_161 (by decide) ?_
        refine Wq.goto (tgt := 166) dL_isAskSo_162 (by decide) ?_
        exact Wq.iret dL_isAskSo_166 (⟨_, rfl, by decide⟩) h
set_option maxHeartbeats 4000000 in
set_option maxRecDepth 20000 in
theorem sgL_isCancelSo {g : GG} {d : Nat} {c n : Nat} {m : PM} {Q : Ou → PM → Nat → Nat → Prop} {x1 : Int32} {x2 : Int32} (h : Wp g (d + 6) MX4_ifCancelled 0 [some (pO 10 8 0), some (pI x1), some (pI x2), some (pI 0)] [] m (cI fun r1 m2 => Wp g (d + 6) MX4_ifCancelled 0 [some (pO 10 8 0), some (pI x1), some (pI x2), some (pI 1)] [] m2 (cI fun r3 m4 => Wp g (d + 6) MX4_ifCancelled 0 [some (pO 10 8 0), some (pI x1), some (pI x2), some (pI 2)] [] m4 (cI fun r5 m6 => Wp g (d + 6) MX4_slot 0 [some (pO 10 8 0), some (pI x1), some (pI x2), some (pI 0)] [] m6 (cI fun r7 m8 => Wp g (d + 6) MX4_slot 0 [some (pO 10 8 0), some (pI x1), some (pI x2), some (pI 1)] [] m8 (cI fun r9 m10 => Wp g (d + 6) MX4_cancel 0 [some (pO 10 8 0), some (pI x1), some (pI x2)] [] m10 (cI fun r11 m12 => ((¬ r11 = r1 → Wq g (d + 7) ML_isCancelSo c n 114 [some (pO 10 8 0), some (pI x1), some (pI x2), none, some (pI r3), some (pI (r5 - 1000)), some (pI r7), some (pI r9), some (pI 0), none, none, none] [] m12 Q) ∧ (r11 = r1 → Wp g (d + 6) MX4_slot 0 [some (pO 10 8 0), some (pI x1), some (pI x2), some (pI 0)] [] m12 (cI fun r14 m15 => ((¬ r14 = (-2) → Wq g (d + 7) ML_isCancelSo c n 114 [some (pO 10 8 0), some (pI x1), some (pI x2), none, some (pI r3), some (pI (r5 - 1000)), some (pI r7), some (pI r9), some (pI 0), none, none, none] [] m15 Q) ∧ (r14 = (-2) → Wp g (d + 6) MX4_slot 0 [some (pO 10 8 0), some (pI x1), some (pI x2), some (pI 1)] [] m15 (cI fun r17 m18 => ((¬ r17 = (-2) → Wq g (d + 7) ML_isCancelSo c n 114 [some (pO 10 8 0), some (pI x1), some (pI x2), none, some (pI r3), some (pI (r5 - 1000)), some (pI r7), some (pI r9), some (pI 0), none, none, none] [] m18 Q) ∧ (r17 = (-2) → ((r7 < 0 → ((r9 < 0 → ((¬ r1 = (0 + 0) → Wq g (d + 7) ML_isCancelSo c n 114 [some (pO 10 8 0), some (pI x1), some (pI x2), none, some (pI r3), some (pI (r5 - 1000)), some (pI r7), some (pI r9), some (pI 0), none, none, none] [] m18 Q) ∧ (r1 = (0 + 0) → Wq g (d + 7) ML_isCancelSo c n 114 [some (pO 10 8 0), some (pI x1), some (pI x2), none, some (pI r3), some (pI (r5 - 1000)), some (pI r7), some (pI r9), some (pI 1), none, none, none] [] m18 Q))) ∧ (¬ r9 < 0 → ((¬ r1 = (0 + 1) → Wq g (d + 7) ML_isCancelSo c n 114 [some (pO 10 8 0), some (pI x1), some (pI x2), none, some (pI r3), some (pI (r5 - 1000)), some (pI r7), some (pI r9), some (pI 0), none, none, none] [] m18 Q) ∧ (r1 = (0 + 1) → Wq g (d + 7) ML_isCancelSo c n 114 [some (pO 10 8 0), some (pI x1), some (pI x2), none, some (pI r3), some (pI (r5 - 1000)), some (pI r7), some (pI r9), some (pI 1), none, none, none] [] m18 Q))))) ∧ (¬ r7 < 0 → ((r9 < 0 → ((¬ r1 = (1 + 0) → Wq g (d + 7) ML_isCancelSo c n 114 [some (pO 10 8 0), some (pI x1), some (pI x2), none, some (pI r3), some (pI (r5 - 1000)), some (pI r7), some (pI r9), some (pI 0), none, none, none] [] m18 Q) ∧ (r1 = (1 + 0) → Wq g (d + 7) ML_isCancelSo c n 114 [some (pO 10 8 0), some (pI x1), some (pI x2), none, some (pI r3), some (pI (r5 - 1000)), some (pI r7), some (pI r9), some (pI 1), none, none, none] [] m18 Q))) ∧ (¬ r9 < 0 → ((¬ r1 = (1 + 1) → Wq g (d + 7) ML_isCancelSo c n 114 [some (pO 10 8 0), some (pI x1), some (pI x2), none, some (pI r3), some (pI (r5 - 1000)), some (pI r7), some (pI r9), some (pI 0), none, none, none] [] m18 Q) ∧ (r1 = (1 + 1) → Wq g (d + 7) ML_isCancelSo c n 114 [some (pO 10 8 0), some (pI x1), some (pI x2), none, some (pI r3), some (pI (r5 - 1000)), some (pI r7), some (pI r9), some (pI 1), none, none, none] [] m18 Q))))))))))))))))))))) : Wq g (d + 7) ML_isCancelSo c n 0 [some (pO 10 8 0), some (pI x1), some (pI x2)] [] m Q := by
  refine Wq.few (ls' := [some (pO 10 8 0), some (pI x1), some (pI x2), none, none, none, none, none, none, none, none, none]) ⟨rfl, ⟨rfl, ⟨rfl, trivial⟩⟩⟩ ?_
  refine Wq.aload_n (t := 10) (r := 8) (j := 0) dL_isCancelSo_0 rfl ?_
  refine Wq.iload_n (x := x1) dL_isCancelSo_1 rfl ?_
  refine Wq.iload_n (x := x2) dL_isCancelSo_2 rfl ?_
  refine Wq.iconst (v := 0) dL_isCancelSo_3 (by decide) ?_
  refine Wq.callVI (As := [pI x1, pI x2, pI 0]) dL_isCancelSo_4 fX4_ifCancelled ml_L_56 rfl (by decide) rfl (Nat.le_of_ble_eq_true rfl) (Nat.le_of_ble_eq_true rfl) h (fun r1 m2 h => ?_)
  refine Wq.istore_n (ls2 := [some (pO 10 8 0), some (pI x1), some (pI x2), some (pI r1), none, none, none, none, none, none, none, none]) dL_isCancelSo_7 (by decide) rfl ?_
  refine Wq.aload_n (t := 10) (r := 8) (j := 0) dL_isCancelSo_8 rfl ?_
  refine Wq.iload_n (x := x1) dL_isCancelSo_9 rfl ?_
  refine Wq.iload_n (x := x2) dL_isCancelSo_10 rfl ?_
  refine Wq.iconst (v := 1) dL_isCancelSo_11 (by decide) ?_
  refine Wq.callVI (As := [pI x1, pI x2, pI 1]) dL_isCancelSo_12 fX4_ifCancelled ml_L_56 rfl (by decide) rfl (Nat.le_of_ble_eq_true rfl) (Nat.le_of_ble_eq_true rfl) h (fun r3 m4 h => ?_)
  refine Wq.istore (ls2 := [some (pO 10 8 0), some (pI x1), some (pI x2), some (pI r1), some (pI r3), none, none, none, none, none, none, none]) dL_isCancelSo_15 (by decide) rfl ?_
  refine Wq.aload_n (t := 10) (r := 8) (j := 0) dL_isCancelSo_17 rfl ?_
  refine Wq.iload_n (x := x1) dL_isCancelSo_18 rfl ?_
  refine Wq.iload_n (x := x2) dL_isCancelSo_19 rfl ?_
  refine Wq.iconst (v := 2) dL_isCancelSo_20 (by decide) ?_
  refine Wq.callVI (As := [pI x1, pI x2, pI 2]) dL_isCancelSo_21 fX4_ifCancelled ml_L_56 rfl (by decide) rfl (Nat.le_of_ble_eq_true rfl) (Nat.le_of_ble_eq_true rfl) h (fun r5 m6 h => ?_)
  refine Wq.sipush (v := 1000) dL_isCancelSo_24 (by decide) ?_
  refine Wq.isub dL_isCancelSo_27 ?_
  refine Wq.istore (ls2 := [some (pO 10 8 0), some (pI x1), some (pI x2), some (pI r1), some (pI r3), some (pI (r5 - 1000)), none, none, none, none, none, none]) dL_isCancelSo_28 (by decide) rfl ?_
  refine Wq.aload_n (t := 10) (r := 8) (j := 0) dL_isCancelSo_30 rfl ?_
  refine Wq.iload_n (x := x1) dL_isCancelSo_31 rfl ?_
  refine Wq.iload_n (x := x2) dL_isCancelSo_32 rfl ?_
  refine Wq.iconst (v := 0) dL_isCancelSo_33 (by decide) ?_
  refine Wq.callVI (As := [pI x1, pI x2, pI 0]) dL_isCancelSo_34 fX4_slot ml_L_49 rfl (by decide) rfl (Nat.le_of_ble_eq_true rfl) (Nat.le_of_ble_eq_true rfl) h (fun r7 m8 h => ?_)
  refine Wq.istore (ls2 := [some (pO 10 8 0), some (pI x1), some (pI x2), some (pI r1), some (pI r3), some (pI (r5 - 1000)), some (pI r7), none, none, none, none, none]) dL_isCancelSo_37 (by decide) rfl ?_
  refine Wq.aload_n (t := 10) (r := 8) (j := 0) dL_isCancelSo_39 rfl ?_
  refine Wq.iload_n (x := x1) dL_isCancelSo_40 rfl ?_
  refine Wq.iload_n (x := x2) dL_isCancelSo_41 rfl ?_
  refine Wq.iconst (v := 1) dL_isCancelSo_42 (by decide) ?_
  refine Wq.callVI (As := [pI x1, pI x2, pI 1]) dL_isCancelSo_43 fX4_slot ml_L_49 rfl (by decide) rfl (Nat.le_of_ble_eq_true rfl) (Nat.le_of_ble_eq_true rfl) h (fun r9 m10 h => ?_)
  refine Wq.istore (ls2 := [some (pO 10 8 0), some (pI x1), some (pI x2), some (pI r1), some (pI r3), some (pI (r5 - 1000)), some (pI r7), some (pI r9), none, none, none, none]) dL_isCancelSo_46 (by decide) rfl ?_
  refine Wq.aload_n (t := 10) (r := 8) (j := 0) dL_isCancelSo_48 rfl ?_
  refine Wq.iload_n (x := x1) dL_isCancelSo_49 rfl ?_
  refine Wq.iload_n (x := x2) dL_isCancelSo_50 rfl ?_
  refine Wq.callVI (As := [pI x1, pI x2]) dL_isCancelSo_51 fX4_cancel ml_L_36 rfl (by decide) rfl (Nat.le_of_ble_eq_true rfl) (Nat.le_of_ble_eq_true rfl) h (fun r11 m12 h => ?_)
  refine Wq.iload_n (x := r1) dL_isCancelSo_54 rfl ?_
  refine Wq.icmpne (tgt := 111) dL_isCancelSo_55 (by decide) (fun q13 => ?_) (fun q13 => ?_)
  · replace h := h.1 q13
    refine Wq.iconst (v := 0) dL_isCancelSo_111 (by decide) ?_
    refine Wq.istore (ls2 := [some (pO 10 8 0), some (pI x1), some (pI x2), some (pI r1), some (pI r3), some (pI (r5 - 1000)), some (pI r7), some (pI r9), some (pI 0), none, none, none]) dL_isCancelSo_112 (by decide) rfl ?_
    refine Wq.few (ls' := [some (pO 10 8 0), some (pI x1), some (pI x2), none, some (pI r3), some (pI (r5 - 1000)), some (pI r7), some (pI r9), some (pI 0), none, none, none]) ⟨rfl, ⟨rfl, ⟨rfl, ⟨rfl, ⟨rfl, ⟨rfl, ⟨rfl, ⟨rfl, trivial⟩⟩⟩⟩⟩⟩⟩⟩ ?_
    exact h
  · replace h := h.2 q13
    refine Wq.aload_n (t := 10) (r := 8) (j := 0) dL_isCancelSo_58 rfl ?_
    refine Wq.iload_n (x := x1) dL_isCancelSo_59 rfl ?_
    refine Wq.iload_n (x := x2) dL_isCancelSo_60 rfl ?_
    refine Wq.iconst (v := 0) dL_isCancelSo_61 (by decide) ?_
    refine Wq.callVI (As := [pI x1, pI x2, pI 0]) dL_isCancelSo_62 fX4_slot ml_L_49 rfl (by decide) rfl (Nat.le_of_ble_eq_true rfl) (Nat.le_of_ble_eq_true rfl) h (fun r14 m15 h => ?_)
    refine Wq.bipush (v := (-2)) dL_isCancelSo_65 (by decide) ?_
    refine Wq.icmpne (tgt := 111) dL_isCancelSo_67 (by decide) (fun q16 => ?_) (fun q16 => ?_)
    · replace h := h.1 q16
      refine Wq.iconst (v := 0) dL_isCancelSo_111 (by decide) ?_
      refine Wq.istore (ls2 := [some (pO 10 8 0), some (pI x1), some (pI x2), some (pI r1), some (pI r3), some (pI (r5 - 1000)), some (pI r7), some (pI r9), some (pI 0), none, none, none]) dL_isCancelSo_112 (by decide) rfl ?_
      refine Wq.few (ls' := [some (pO 10 8 0), some (pI x1), some (pI x2), none, some (pI r3), some (pI (r5 - 1000)), some (pI r7), some (pI r9), some (pI 0), none, none, none]) ⟨rfl, ⟨rfl, ⟨rfl, ⟨rfl, ⟨rfl, ⟨rfl, ⟨rfl, ⟨rfl, trivial⟩⟩⟩⟩⟩⟩⟩⟩ ?_
      exact h
    · replace h := h.2 q16
      refine Wq.aload_n (t := 10) (r := 8) (j := 0) dL_isCancelSo_70 rfl ?_
      refine Wq.iload_n (x := x1) dL_isCancelSo_71 rfl ?_
      refine Wq.iload_n (x := x2) dL_isCancelSo_72 rfl ?_
      refine Wq.iconst (v := 1) dL_isCancelSo_73 (by decide) ?_
      refine Wq.callVI (As := [pI x1, pI x2, pI 1]) dL_isCancelSo_74 fX4_slot ml_L_49 rfl (by decide) rfl (Nat.le_of_ble_eq_true rfl) (Nat.le_of_ble_eq_true rfl) h (fun r17 m18 h => ?_)
      refine Wq.bipush (v := (-2)) dL_isCancelSo_77 (by decide) ?_
      refine Wq.icmpne (tgt := 111) dL_isCancelSo_79 (by decide) (fun q19 => ?_) (fun q19 => ?_)
      · replace h := h.1 q19
        refine Wq.iconst (v := 0) dL_isCancelSo_111 (by decide) ?_
        refine Wq.istore (ls2 := [some (pO 10 8 0), some (pI x1), some (pI x2), some (pI r1), some (pI r3), some (pI (r5 - 1000)), some (pI r7), some (pI r9), some (pI 0), none, none, none]) dL_isCancelSo_112 (by decide) rfl ?_
        refine Wq.few (ls' := [some (pO 10 8 0), some (pI x1), some (pI x2), none, some (pI r3), some (pI (r5 - 1000)), some (pI r7), some (pI r9), some (pI 0), none, none, none]) ⟨rfl, ⟨rfl, ⟨rfl, ⟨rfl, ⟨rfl, ⟨rfl, ⟨rfl, ⟨rfl, trivial⟩⟩⟩⟩⟩⟩⟩⟩ ?_
        exact h
      · replace h := h.2 q19
        refine Wq.iload_n (x := r1) dL_isCancelSo_82 rfl ?_
        refine Wq.iload (x := r7) dL_isCancelSo_83 rfl ?_
        refine Wq.iflt (tgt := 92) dL_isCancelSo_85 (by decide) (fun q20 => ?_) (fun q20 => ?_)
        · replace h := h.1 q20
          refine Wq.iconst (v := 0) dL_isCancelSo_92 (by decide) ?_
          refine Wq.iload (x := r9) dL_isCancelSo_93 rfl ?_
          refine Wq.iflt (tgt := 102) dL_isCancelSo_95 (by decide) (fun q21 => ?_) (fun q21 => ?_)
          · replace h := h.1 q21
            refine Wq.iconst (v := 0) dL_isCancelSo_102 (by decide) ?_
            refine Wq.iadd dL_isCancelSo_103 ?_
            refine Wq.icmpne (tgt := 111) dL_isCancelSo_104 (by decide) (fun q22 => ?_) (fun q22 => ?_)
            · replace h := h.1 q22
              refine Wq.iconst (v := 0) dL_isCancelSo_111 (by decide) ?_
              refine Wq.istore (ls2 := [some (pO 10 8 0), some (pI x1), some (pI x2), some (pI r1), some (pI r3), some (pI (r5 - 1000)), some (pI r7), some (pI r9), some (pI 0), none, none, none]) dL_isCancelSo_112 (by decide) rfl ?_
              refine Wq.few (ls' := [some (pO 10 8 0), some (pI x1), some (pI x2), none, some (pI r3), some (pI (r5 - 1000)), some (pI r7), some (pI r9), some (pI 0), none, none, none]) ⟨rfl, ⟨rfl, ⟨rfl, ⟨rfl, ⟨rfl, ⟨rfl, ⟨rfl, ⟨rfl, trivial⟩⟩⟩⟩⟩⟩⟩⟩ ?_
              exact h
            · replace h := h.2 q22
              refine Wq.iconst (v := 1) dL_isCancelSo_107 (by decide) ?_
              refine Wq.goto (tgt := 112) dL_isCancelSo_108 (by decide) ?_
              refine Wq.istore (ls2 := [some (pO 10 8 0), some (pI x1), some (pI x2), some (pI r1), some (pI r3), some (pI (r5 - 1000)), some (pI r7), some (pI r9), some (pI 1), none, none, none]) dL_isCancelSo_112 (by decide) rfl ?_
              refine Wq.few (ls' := [some (pO 10 8 0), some (pI x1), some (pI x2), none, some (pI r3), some (pI (r5 - 1000)), some (pI r7), some (pI r9), some (pI 1), none, none, none]) ⟨rfl, ⟨rfl, ⟨rfl, ⟨rfl, ⟨rfl, ⟨rfl, ⟨rfl, ⟨rfl, trivial⟩⟩⟩⟩⟩⟩⟩⟩ ?_
              exact h
          · replace h := h.2 q21
            refine Wq.iconst (v := 1) dL_isCancelSo_98 (by decide) ?_
            refine Wq.goto (tgt := 103) dL_isCancelSo_99 (by decide) ?_
            refine Wq.iadd dL_isCancelSo_103 ?_
            refine Wq.icmpne (tgt := 111) dL_isCancelSo_104 (by decide) (fun q23 => ?_) (fun q23 => ?_)
            · replace h := h.1 q23
              refine Wq.iconst (v := 0) dL_isCancelSo_111 (by decide) ?_
              refine Wq.istore (ls2 := [some (pO 10 8 0), some (pI x1), some (pI x2), some (pI r1), some (pI r3), some (pI (r5 - 1000)), some (pI r7), some (pI r9), some (pI 0), none, none, none]) dL_isCancelSo_112 (by decide) rfl ?_
              refine Wq.few (ls' := [some (pO 10 8 0), some (pI x1), some (pI x2), none, some (pI r3), some (pI (r5 - 1000)), some (pI r7), some (pI r9), some (pI 0), none, none, none]) ⟨rfl, ⟨rfl, ⟨rfl, ⟨rfl, ⟨rfl, ⟨rfl, ⟨rfl, ⟨rfl, trivial⟩⟩⟩⟩⟩⟩⟩⟩ ?_
              exact h
            · replace h := h.2 q23
              refine Wq.iconst (v := 1) dL_isCancelSo_107 (by decide) ?_
              refine Wq.goto (tgt := 112) dL_isCancelSo_108 (by decide) ?_
              refine Wq.istore (ls2 := [some (pO 10 8 0), some (pI x1), some (pI x2), some (pI r1), some (pI r3), some (pI (r5 - 1000)), some (pI r7), some (pI r9), some (pI 1), none, none, none]) dL_isCancelSo_112 (by decide) rfl ?_
              refine Wq.few (ls' := [some (pO 10 8 0), some (pI x1), some (pI x2), none, some (pI r3), some (pI (r5 - 1000)), some (pI r7), some (pI r9), some (pI 1), none, none, none]) ⟨rfl, ⟨rfl, ⟨rfl, ⟨rfl, ⟨rfl, ⟨rfl, ⟨rfl, ⟨rfl, trivial⟩⟩⟩⟩⟩⟩⟩⟩ ?_
              exact h
        · replace h := h.2 q20
          refine Wq.iconst (v := 1) dL_isCancelSo_88 (by decide) ?_
          refine Wq.goto (tgt := 93) dL_isCancelSo_89 (by decide) ?_
          refine Wq.iload (x := r9) dL_isCancelSo_93 rfl ?_
          refine Wq.iflt (tgt := 102) dL_isCancelSo_95 (by decide) (fun q24 => ?_) (fun q24 => ?_)
          · replace h := h.1 q24
            refine Wq.iconst (v := 0) dL_isCancelSo_102 (by decide) ?_
            refine Wq.iadd dL_isCancelSo_103 ?_
            refine Wq.icmpne (tgt := 111) dL_isCancelSo_104 (by decide) (fun q25 => ?_) (fun q25 => ?_)
            · replace h := h.1 q25
              refine Wq.iconst (v := 0) dL_isCancelSo_111 (by decide) ?_
              refine Wq.istore (ls2 := [some (pO 10 8 0), some (pI x1), some (pI x2), some (pI r1), some (pI r3), some (pI (r5 - 1000)), some (pI r7), some (pI r9), some (pI 0), none, none, none]) dL_isCancelSo_112 (by decide) rfl ?_
              refine Wq.few (ls' := [some (pO 10 8 0), some (pI x1), some (pI x2), none, some (pI r3), some (pI (r5 - 1000)), some (pI r7), some (pI r9), some (pI 0), none, none, none]) ⟨rfl, ⟨rfl, ⟨rfl, ⟨rfl, ⟨rfl, ⟨rfl, ⟨rfl, ⟨rfl, trivial⟩⟩⟩⟩⟩⟩⟩⟩ ?_
              exact h
            · replace h := h.2 q25
              refine Wq.iconst (v := 1) dL_isCancelSo_107 (by decide) ?_
              refine Wq.goto (tgt := 112) dL_isCancelSo_108 (by decide) ?_
              refine Wq.istore (ls2 := [some (pO 10 8 0), some (pI x1), some (pI x2), some (pI r1), some (pI r3), some (pI (r5 - 1000)), some (pI r7), some (pI r9), some (pI 1), none, none, none]) dL_isCancelSo_112 (by decide) rfl ?_
              refine Wq.few (ls' := [some (pO 10 8 0), some (pI x1), some (pI x2), none, some (pI r3), some (pI (r5 - 1000)), some (pI r7), some (pI r9), some (pI 1), none, none, none]) ⟨rfl, ⟨rfl, ⟨rfl, ⟨rfl, ⟨rfl, ⟨rfl, ⟨rfl, ⟨rfl, trivial⟩⟩⟩⟩⟩⟩⟩⟩ ?_
              exact h
          · replace h := h.2 q24
            refine Wq.iconst (v := 1) dL_isCancelSo_98 (by decide) ?_
            refine Wq.goto (tgt := 103) dL_isCancelSo_99 (by decide) ?_
            refine Wq.iadd dL_isCancelSo_103 ?_
            refine Wq.icmpne (tgt := 111) dL_isCancelSo_104 (by decide) (fun q26 => ?_) (fun q26 => ?_)
            · replace h := h.1 q26
              refine Wq.iconst (v := 0) dL_isCancelSo_111 (by decide) ?_
              refine Wq.istore (ls2 := [some (pO 10 8 0), some (pI x1), some (pI x2), some (pI r1), some (pI r3), some (pI (r5 - 1000)), some (pI r7), some (pI r9), some (pI 0), none, none, none]) dL_isCancelSo_112 (by decide) rfl ?_
              refine Wq.few (ls' := [some (pO 10 8 0), some (pI x1), some (pI x2), none, some (pI r3), some (pI (r5 - 1000)), some (pI r7), some (pI r9), some (pI 0), none, none, none]) ⟨rfl, ⟨rfl, ⟨rfl, ⟨rfl, ⟨rfl, ⟨rfl, ⟨rfl, ⟨rfl, trivial⟩⟩⟩⟩⟩⟩⟩⟩ ?_
              exact h
            · replace h := h.2 q26
              refine Wq.iconst (v := 1) dL_isCancelSo_107 (by decide) ?_
              refine Wq.goto (tgt := 112) dL_isCancelSo_108 (by decide) ?_
              refine Wq.istore (ls2 := [some (pO 10 8 0), some (pI x1), some (pI x2), some (pI r1), some (pI r3), some (pI (r5 - 1000)), some (pI r7), some (pI r9), some (pI 1), none, none, none]) dL_isCancelSo_112 (by decide) rfl ?_
              refine Wq.few (ls' := [some (pO 10 8 0), some (pI x1), some (pI x2), none, some (pI r3), some (pI (r5 - 1000)), some (pI r7), some (pI r9), some (pI 1), none, none, none]) ⟨rfl, ⟨rfl, ⟨rfl, ⟨rfl, ⟨rfl, ⟨rfl, ⟨rfl, ⟨rfl, trivial⟩⟩⟩⟩⟩⟩⟩⟩ ?_
              exact h
set_option maxHeartbeats 4000000 in
set_option maxRecDepth 20000 in
theorem sgL_isCancelSo_114 {g : GG} {d : Nat} {c n : Nat} {m : PM} {Q : Ou → PM → Nat → Nat → Prop} {x1 : Int32} {x2 : Int32} {x4 : Int32} {x5 : Int32} {x6 : Int32} {x7 : Int32} {x8 : Int32} (h : ((x6 < 0 → Wq g (d + 7) ML_isCancelSo c n 175 [some (pO 10 8 0), some (pI x1), some (pI x2), none, some (pI x4), some (pI x5), some (pI x6), some (pI x7), some (pI x8), some (pI 0), some (pI 0), none] [] m Q) ∧ (¬ x6 < 0 → Wp g (d + 6) MX4_pupil 0 [some (pO 10 8 0), some (pI x6), some (pI 0)] [] m (cI fun r2 m3 => ((¬ r2 = 1 → Wp g (d + 6) MX4_pupil 0 [some (pO 10 8 0), some (pI x6), some (pI 0)] [] m3 (cI fun r5 m6 => ((¬ r5 = 1 → Wp g (d + 6) MX4_pupil 0 [some (pO 10 8 0), some (pI x6), some (pI 5)] [] m6 (cI fun r8 m9 => Wq g (d + 7) ML_isCancelSo c n 175 [some (pO 10 8 0), some (pI x1), some (pI x2), none, some (pI x4), some (pI x5), some (pI x6), some (pI x7), some (pI x8), some (pI (0 + 0)), some (pI (0 + (r8 - x2))), none] [] m9 Q)) ∧ (r5 = 1 → Wq g (d + 7) ML_isCancelSo c n 175 [some (pO 10 8 0), some (pI x1), some (pI x2), none, some (pI x4), some (pI x5), some (pI x6), some (pI x7), some (pI x8), some (pI (0 + 0)), some (pI (0 + 0)), none] [] m6 Q)))) ∧ (r2 = 1 → Wp g (d + 6) MX4_pupil 0 [some (pO 10 8 0), some (pI x6), some (pI 0)] [] m3 (cI fun r10 m11 => ((¬ r10 = 1 → Wp g (d + 6) MX4_pupil 0 [some (pO 10 8 0), some (pI x6), some (pI 5)] [] m11 (cI fun r13 m14 => Wq g (d + 7) ML_isCancelSo c n 175 [some (pO 10 8 0), some (pI x1), some (pI x2), none, some (pI x4), some (pI x5), some (pI x6), some (pI x7), some (pI x8), some (pI (0 + 1)), some (pI (0 + (r13 - x2))), none] [] m14 Q)) ∧ (r10 = 1 → Wq g (d + 7) ML_isCancelSo c n 175 [some (pO 10 8 0), some (pI x1), some (pI x2), none, some (pI x4), some (pI x5), some (pI x6), some (pI x7), some (pI x8), some (pI (0 + 1)), some (pI (0 + 0)), none] [] m11 Q))))))))) : Wq g (d + 7) ML_isCancelSo c n 114 [some (pO 10 8 0), some (pI x1), some (pI x2), none, some (pI x4), some (pI x5), some (pI x6), some (pI x7), some (pI x8), none, none, none] [] m Q := by
  refine Wq.iconst (v := 0) dL_isCancelSo_114 (by decide) ?_
  refine Wq.istore (ls2 := [some (pO 10 8 0), some (pI x1), some (pI x2), none, some (pI x4), some (pI x5), some (pI x6), some (pI x7), some (pI x8), some (pI 0), none, none]) dL_isCancelSo_115 (by decide) rfl ?_
  refine Wq.iconst (v := 0) dL_isCancelSo_117 (by decide) ?_
  refine Wq.istore (ls2 := [some (pO 10 8 0), some (pI x1), some (pI x2), none, some (pI x4), some (pI x5), some (pI x6), some (pI x7), some (pI x8), some (pI 0), some (pI 0), none]) dL_isCancelSo_118 (by decide) rfl ?_
  refine Wq.iload (x := x6) dL_isCancelSo_120 rfl ?_
  refine Wq.iflt (tgt := 175) dL_isCancelSo_122 (by decide) (fun q1 => ?_) (fun q1 => ?_)
  · replace h := h.1 q1
    exact h
  · replace h := h.2 q1
    refine Wq.iload (x := 0) dL_isCancelSo_125 rfl ?_
    refine Wq.aload_n (t := 10) (r := 8) (j := 0) dL_isCancelSo_127 rfl ?_
    refine Wq.iload (x := x6) dL_isCancelSo_128 rfl ?_
    refine Wq.iconst (v := 0) dL_isCancelSo_130 (by decide) ?_
    refine Wq.callVI (As := [pI x6, pI 0]) dL_isCancelSo_131 fX4_pupil ml_L_20 rfl (by decide) rfl (Nat.le_of_ble_eq_true rfl) (Nat.le_of_ble_eq_true rfl) h (fun r2 m3 h => ?_)
    refine Wq.iconst (v := 1) dL_isCancelSo_134 (by decide) ?_
    refine Wq.icmpne (tgt := 142) dL_isCancelSo_135 (by decide) (fun q4 => ?_) (fun q4 => ?_)
    · replace h := h.1 q4
      refine Wq.iconst (v := 0) dL_isCancelSo_142 (by decide) ?_
      refine Wq.iadd dL_isCancelSo_143 ?_
      refine Wq.istore (ls2 := [some (pO 10 8 0), some (pI x1), some (pI x2), none, some (pI x4), some (pI x5), some (pI x6), some (pI x7), some (pI x8), some (pI (0 + 0)), some (pI 0), none]) dL_isCancelSo_144 (by decide) rfl ?_
      refine Wq.iload (x := 0) dL_isCancelSo_146 rfl ?_
      refine Wq.aload_n (t := 10) (r := 8) (j := 0) dL_isCancelSo_148 rfl ?_
      refine Wq.iload (x := x6) dL_isCancelSo_149 rfl ?_
      refine Wq.iconst (v := 0) dL_isCancelSo_151 (by decide) ?_
      refine Wq.callVI (As := [pI x6, pI 0]) dL_isCancelSo_152 fX4_pupil ml_L_20 rfl (by decide) rfl (Nat.le_of_ble_eq_true rfl) (Nat.le_of_ble_eq_true rfl) h (fun r5 m6 h => ?_)
      refine Wq.iconst (v := 1) dL_isCancelSo_155 (by decide) ?_
      refine Wq.icmpne (tgt := 163) dL_isCancelSo_156 (by decide) (fun q7 => ?_) (fun q7 => ?_)
      · replace h := h.1 q7
        refine Wq.aload_n (t := 10) (r := 8) (j := 0) dL_isCancelSo_163 rfl ?_
        refine Wq.iload (x := x6) dL_isCancelSo_164 rfl ?_
        refine Wq.iconst (v := 5) dL_isCancelSo_166 (by decide) ?_
        refine Wq.callVI (As := [pI x6, pI 5]) dL_isCancelSo_167 fX4_pupil ml_L_20 rfl (by decide) rfl (Nat.le_of_ble_eq_true rfl) (Nat.le_of_ble_eq_true rfl) h (fun r8 m9 h => ?_)
        refine Wq.iload_n (x := x2) dL_isCancelSo_170 rfl ?_
        refine Wq.isub dL_isCancelSo_171 ?_
        refine Wq.iadd dL_isCancelSo_172 ?_
        refine Wq.istore (ls2 := [some (pO 10 8 0), some (pI x1), some (pI x2), none, some (pI x4), some (pI x5), some (pI x6), some (pI x7), some (pI x8), some (pI (0 + 0)), some (pI (0 + (r8 - x2))), none]) dL_isCancelSo_173 (by decide) rfl ?_
        exact h
      · replace h := h.2 q7
        refine Wq.iconst (v := 0) dL_isCancelSo_159 (by decide) ?_
        refine Wq.goto (tgt := 172) dL_isCancelSo_160 (by decide) ?_
        refine Wq.iadd dL_isCancelSo_172 ?_
        refine Wq.istore (ls2 := [some (pO 10 8 0), some (pI x1), some (pI x2), none, some (pI x4), some (pI x5), some (pI x6), some (pI x7), some (pI x8), some (pI (0 + 0)), some (pI (0 + 0)), none]) dL_isCancelSo_173 (by decide) rfl ?_
        exact h
    · replace h := h.2 q4
      refine Wq.iconst (v := 1) dL_isCancelSo_138 (by decide) ?_
      refine Wq.goto (tgt := 143) dL_isCancelSo_139 (by decide) ?_
      refine Wq.iadd dL_isCancelSo_143 ?_
      refine Wq.istore (ls2 := [some (pO 10 8 0), some (pI x1), some (pI x2), none, some (pI x4), some (pI x5), some (pI x6), some (pI x7), some (pI x8), some (pI (0 + 1)), some (pI 0), none]) dL_isCancelSo_144 (by decide) rfl ?_
      refine Wq.iload (x := 0) dL_isCancelSo_146 rfl ?_
      refine Wq.aload_n (t := 10) (r := 8) (j := 0) dL_isCancelSo_148 rfl ?_
      refine Wq.iload (x := x6) dL_isCancelSo_149 rfl ?_
      refine Wq.iconst (v := 0) dL_isCancelSo_151 (by decide) ?_
      refine Wq.callVI (As := [pI x6, pI 0]) dL_isCancelSo_152 fX4_pupil ml_L_20 rfl (by decide) rfl (Nat.le_of_ble_eq_true rfl) (Nat.le_of_ble_eq_true rfl) h (fun r10 m11 h => ?_)
      refine Wq.iconst (v := 1) dL_isCancelSo_155 (by decide) ?_
      refine Wq.icmpne (tgt := 163) dL_isCancelSo_156 (by decide) (fun q12 => ?_) (fun q12 => ?_)
      · replace h := h.1 q12
        refine Wq.aload_n (t := 10) (r := 8) (j := 0) dL_isCancelSo_163 rfl ?_
        refine Wq.iload (x := x6) dL_isCancelSo_164 rfl ?_
        refine Wq.iconst (v := 5) dL_isCancelSo_166 (by decide) ?_
        refine Wq.callVI (As := [pI x6, pI 5]) dL_isCancelSo_167 fX4_pupil ml_L_20 rfl (by decide) rfl (Nat.le_of_ble_eq_true rfl) (Nat.le_of_ble_eq_true rfl) h (fun r13 m14 h => ?_)
        refine Wq.iload_n (x := x2) dL_isCancelSo_170 rfl ?_
        refine Wq.isub dL_isCancelSo_171 ?_
        refine Wq.iadd dL_isCancelSo_172 ?_
        refine Wq.istore (ls2 := [some (pO 10 8 0), some (pI x1), some (pI x2), none, some (pI x4), some (pI x5), some (pI x6), some (pI x7), some (pI x8), some (pI (0 + 1)), some (pI (0 + (r13 - x2))), none]) dL_isCancelSo_173 (by decide) rfl ?_
        exact h
      · replace h := h.2 q12
        refine Wq.iconst (v := 0) dL_isCancelSo_159 (by decide) ?_
        refine Wq.goto (tgt := 172) dL_isCancelSo_160 (by decide) ?_
        refine Wq.iadd dL_isCancelSo_172 ?_
        refine Wq.istore (ls2 := [some (pO 10 8 0), some (pI x1), some (pI x2), none, some (pI x4), some (pI x5), some (pI x6), some (pI x7), some (pI x8), some (pI (0 + 1)), some (pI (0 + 0)), none]) dL_isCancelSo_173 (by decide) rfl ?_
        exact h
set_option maxHeartbeats 4000000 in
set_option maxRecDepth 20000 in
theorem sgL_isCancelSo_175 {g : GG} {d : Nat} {c n : Nat} {m : PM} {Q : Ou → PM → Nat → Nat → Prop} {x1 : Int32} {x2 : Int32} {x4 : Int32} {x5 : Int32} {x6 : Int32} {x7 : Int32} {x8 : Int32} {x9 : Int32} {x10 : Int32} (h : ((x7 < 0 → Wq g (d + 7) ML_isCancelSo c n 230 [some (pO 10 8 0), some (pI x1), some (pI x2), none, some (pI x4), some (pI x5), some (pI x6), some (pI x7), some (pI x8), some (pI x9), some (pI x10), none] [] m Q) ∧ (¬ x7 < 0 → Wp g (d + 6) MX4_pupil 0 [some (pO 10 8 0), some (pI x7), some (pI 0)] [] m (cI fun r2 m3 => ((¬ r2 = 1 → Wp g (d + 6) MX4_pupil 0 [some (pO 10 8 0), some (pI x7), some (pI 0)] [] m3 (cI fun r5 m6 => ((¬ r5 = 1 → Wp g (d + 6) MX4_pupil 0 [some (pO 10 8 0), some (pI x7), some (pI 5)] [] m6 (cI fun r8 m9 => Wq g (d + 7) ML_isCancelSo c n 230 [some (pO 10 8 0), some (pI x1), some (pI x2), none, some (pI x4), some (pI x5), some (pI x6), some (pI x7), some (pI x8), some (pI (x9 + 0)), some (pI (x10 + (r8 - x2))), none] [] m9 Q)) ∧ (r5 = 1 → Wq g (d + 7) ML_isCancelSo c n 230 [some (pO 10 8 0), some (pI x1), some (pI x2), none, some (pI x4), some (pI x5), some (pI x6), some (pI x7), some (pI x8), some (pI (x9 + 0)), some (pI (x10 + 0)), none] [] m6 Q)))) ∧ (r2 = 1 → Wp g (d + 6) MX4_pupil 0 [some (pO 10 8 0), some (pI x7), some (pI 0)] [] m3 (cI fun r10 m11 => ((¬ r10 = 1 → Wp g (d + 6) MX4_pupil 0 [some (pO 10 8 0), some (pI x7), some (pI 5)] [] m11 (cI fun r13 m14 => Wq g (d + 7) ML_isCancelSo c n 230 [some (pO 10 8 0), some (pI x1), some (pI x2), none, some (pI x4), some (pI x5), some (pI x6), some (pI x7), some (pI x8), some (pI (x9 + 1)), some (pI (x10 + (r13 - x2))), none] [] m14 Q)) ∧ (r10 = 1 → Wq g (d + 7) ML_isCancelSo c n 230 [some (pO 10 8 0), some (pI x1), some (pI x2), none, some (pI x4), some (pI x5), some (pI x6), some (pI x7), some (pI x8), some (pI (x9 + 1)), some (pI (x10 + 0)), none] [] m11 Q))))))))) : Wq g (d + 7) ML_isCancelSo c n 175 [some (pO 10 8 0), some (pI x1), some (pI x2), none, some (pI x4), some (pI x5), some (pI x6), some (pI x7), some (pI x8), some (pI x9), some (pI x10), none] [] m Q := by
  refine Wq.iload (x := x7) dL_isCancelSo_175 rfl ?_
  refine Wq.iflt (tgt := 230) dL_isCancelSo_177 (by decide) (fun q1 => ?_) (fun q1 => ?_)
  · replace h := h.1 q1
    exact h
  · replace h := h.2 q1
    refine Wq.iload (x := x9) dL_isCancelSo_180 rfl ?_
    refine Wq.aload_n (t := 10) (r := 8) (j := 0) dL_isCancelSo_182 rfl ?_
    refine Wq.iload (x := x7) dL_isCancelSo_183 rfl ?_
    refine Wq.iconst (v := 0) dL_isCancelSo_185 (by decide) ?_
    refine Wq.callVI (As := [pI x7, pI 0]) dL_isCancelSo_186 fX4_pupil ml_L_20 rfl (by decide) rfl (Nat.le_of_ble_eq_true rfl) (Nat.le_of_ble_eq_true rfl) h (fun r2 m3 h => ?_)
    refine Wq.iconst (v := 1) dL_isCancelSo_189 (by decide) ?_
    refine Wq.icmpne (tgt := 197) dL_isCancelSo_190 (by decide) (fun q4 => ?_) (fun q4 => ?_)
    · replace h := h.1 q4
      refine Wq.iconst (v := 0) dL_isCancelSo_197 (by decide) ?_
      refine Wq.iadd dL_isCancelSo_198 ?_
      refine Wq.istore (ls2 := [some (pO 10 8 0), some (pI x1), some (pI x2), none, some (pI x4), some (pI x5), some (pI x6), some (pI x7), some (pI x8), some (pI (x9 + 0)), some (pI x10), none]) dL_isCancelSo_199 (by decide) rfl ?_
      refine Wq.iload (x := x10) dL_isCancelSo_201 rfl ?_
      refine Wq.aload_n (t := 10) (r := 8) (j := 0) dL_isCancelSo_203 rfl ?_
      refine Wq.iload (x := x7) dL_isCancelSo_204 rfl ?_
      refine Wq.iconst (v := 0) dL_isCancelSo_206 (by decide) ?_
      refine Wq.callVI (As := [pI x7, pI 0]) dL_isCancelSo_207 fX4_pupil ml_L_20 rfl (by decide) rfl (Nat.le_of_ble_eq_true rfl) (Nat.le_of_ble_eq_true rfl) h (fun r5 m6 h => ?_)
      refine Wq.iconst (v := 1) dL_isCancelSo_210 (by decide) ?_
      refine Wq.icmpne (tgt := 218) dL_isCancelSo_211 (by decide) (fun q7 => ?_) (fun q7 => ?_)
      · replace h := h.1 q7
        refine Wq.aload_n (t := 10) (r := 8) (j := 0) dL_isCancelSo_218 rfl ?_
        refine Wq.iload (x := x7) dL_isCancelSo_219 rfl ?_
        refine Wq.iconst (v := 5) dL_isCancelSo_221 (by decide) ?_
        refine Wq.callVI (As := [pI x7, pI 5]) dL_isCancelSo_222 fX4_pupil ml_L_20 rfl (by decide) rfl (Nat.le_of_ble_eq_true rfl) (Nat.le_of_ble_eq_true rfl) h (fun r8 m9 h => ?_)
        refine Wq.iload_n (x := x2) dL_isCancelSo_225 rfl ?_
        refine Wq.isub dL_isCancelSo_226 ?_
        refine Wq.iadd dL_isCancelSo_227 ?_
        refine Wq.istore (ls2 := [some (pO 10 8 0), some (pI x1), some (pI x2), none, some (pI x4), some (pI x5), some (pI x6), some (pI x7), some (pI x8), some (pI (x9 + 0)), some (pI (x10 + (r8 - x2))), none]) dL_isCancelSo_228 (by decide) rfl ?_
        exact h
      · replace h := h.2 q7
        refine Wq.iconst (v := 0) dL_isCancelSo_214 (by decide) ?_
        refine Wq.goto (tgt := 227) dL_isCancelSo_215 (by decide) ?_
        refine Wq.iadd dL_isCancelSo_227 ?_
        refine Wq.istore (ls2 := [some (pO 10 8 0), some (pI x1), some (pI x2), none, some (pI x4), some (pI x5), some (pI x6), some (pI x7), some (pI x8), some (pI (x9 + 0)), some (pI (x10 + 0)), none]) dL_isCancelSo_228 (by decide) rfl ?_
        exact h
    · replace h := h.2 q4
      refine Wq.iconst (v := 1) dL_isCancelSo_193 (by decide) ?_
      refine Wq.goto (tgt := 198) dL_isCancelSo_194 (by decide) ?_
      refine Wq.iadd dL_isCancelSo_198 ?_
      refine Wq.istore (ls2 := [some (pO 10 8 0), some (pI x1), some (pI x2), none, some (pI x4), some (pI x5), some (pI x6), some (pI x7), some (pI x8), some (pI (x9 + 1)), some (pI x10), none]) dL_isCancelSo_199 (by decide) rfl ?_
      refine Wq.iload (x := x10) dL_isCancelSo_201 rfl ?_
      refine Wq.aload_n (t := 10) (r := 8) (j := 0) dL_isCancelSo_203 rfl ?_
      refine Wq.iload (x := x7) dL_isCancelSo_204 rfl ?_
      refine Wq.iconst (v := 0) dL_isCancelSo_206 (by decide) ?_
      refine Wq.callVI (As := [pI x7, pI 0]) dL_isCancelSo_207 fX4_pupil ml_L_20 rfl (by decide) rfl (Nat.le_of_ble_eq_true rfl) (Nat.le_of_ble_eq_true rfl) h (fun r10 m11 h => ?_)
      refine Wq.iconst (v := 1) dL_isCancelSo_210 (by decide) ?_
      refine Wq.icmpne (tgt := 218) dL_isCancelSo_211 (by decide) (fun q12 => ?_) (fun q12 => ?_)
      · replace h := h.1 q12
        refine Wq.aload_n (t := 10) (r := 8) (j := 0) dL_isCancelSo_218 rfl ?_
        refine Wq.iload (x := x7) dL_isCancelSo_219 rfl ?_
        refine Wq.iconst (v := 5) dL_isCancelSo_221 (by decide) ?_
        refine Wq.callVI (As := [pI x7, pI 5]) dL_isCancelSo_222 fX4_pupil ml_L_20 rfl (by decide) rfl (Nat.le_of_ble_eq_true rfl) (Nat.le_of_ble_eq_true rfl) h (fun r13 m14 h => ?_)
        refine Wq.iload_n (x := x2) dL_isCancelSo_225 rfl ?_
        refine Wq.isub dL_isCancelSo_226 ?_
        refine Wq.iadd dL_isCancelSo_227 ?_
        refine Wq.istore (ls2 := [some (pO 10 8 0), some (pI x1), some (pI x2), none, some (pI x4), some (pI x5), some (pI x6), some (pI x7), some (pI x8), some (pI (x9 + 1)), some (pI (x10 + (r13 - x2))), none]) dL_isCancelSo_228 (by decide) rfl ?_
        exact h
      · replace h := h.2 q12
        refine Wq.iconst (v := 0) dL_isCancelSo_214 (by decide) ?_
        refine Wq.goto (tgt := 227) dL_isCancelSo_215 (by decide) ?_
        refine Wq.iadd dL_isCancelSo_227 ?_
        refine Wq.istore (ls2 := [some (pO 10 8 0), some (pI x1), some (pI x2), none, some (pI x4), some (pI x5), some (pI x6), some (pI x7), some (pI x8), some (pI (x9 + 1)), some (pI (x10 + 0)), none]) dL_isCancelSo_228 (by decide) rfl ?_
        exact h
set_option maxHeartbeats 4000000 in
set_option maxRecDepth 20000 in
theorem sgL_isCancelSo_230 {g : GG} {d : Nat} {c n : Nat} {m : PM} {Q : Ou → PM → Nat → Nat → Prop} {x1 : Int32} {x2 : Int32} {x4 : Int32} {x5 : Int32} {x6 : Int32} {x7 : Int32} {x8 : Int32} {x9 : Int32} {x10 : Int32} (h : Wp g (d + 6) MX4_undo 0 [some (pO 10 8 0)] [] m (cI fun r1 m2 => Wq g (d + 7) ML_isCancelSo c n 236 [some (pO 10 8 0), some (pI x1), some (pI x2), none, some (pI x4), some (pI x5), some (pI x6), some (pI x7), some (pI x8), some (pI x9), some (pI x10), some (pI r1)] [] m2 Q)) : Wq g (d + 7) ML_isCancelSo c n 230 [some (pO 10 8 0), some (pI x1), some (pI x2), none, some (pI x4), some (pI x5), some (pI x6), some (pI x7), some (pI x8), some (pI x9), some (pI x10), none] [] m Q := by
  refine Wq.aload_n (t := 10) (r := 8) (j := 0) dL_isCancelSo_230 rfl ?_
  refine Wq.callVI (As := []) dL_isCancelSo_231 fX4_undo ml_L_59 rfl (by decide) rfl (Nat.le_of_ble_eq_true rfl) (Nat.le_of_ble_eq_true rfl) h (fun r1 m2 h => ?_)
  refine Wq.istore (ls2 := [some (pO 10 8 0), some (pI x1), some (pI x2), none, some (pI x4), some (pI x5), some (pI x6), some (pI x7), some (pI x8), some (pI x9), some (pI x10), some (pI r1)]) dL_isCancelSo_234 (by decide) rfl ?_
  exact h
set_option maxHeartbeats 4000000 in
set_option maxRecDepth 20000 in
theorem sgL_isCancelSo_236 {g : GG} {d : Nat} {c n : Nat} {m : PM} {Q : Ou → PM → Nat → Nat → Prop} {x1 : Int32} {x2 : Int32} {x4 : Int32} {x5 : Int32} {x6 : Int32} {x7 : Int32} {x8 : Int32} {x9 : Int32} {x10 : Int32} {x11 : Int32} (h : ((x8 = 0 → Q (.inl (some (pI 0))) m c n) ∧ (¬ x8 = 0 → ((¬ x9 = x4 → Q (.inl (some (pI 0))) m c n) ∧ (x9 = x4 → ((¬ x10 = x5 → Q (.inl (some (pI 0))) m c n) ∧ (x10 = x5 → ((x11 < 0 → Q (.inl (some (pI 0))) m c n) ∧ (¬ x11 < 0 → Wp g (d + 6) MX4_slot 0 [some (pO 10 8 0), some (pI x1), some (pI x2), some (pI 0)] [] m (cI fun r5 m6 => ((¬ r5 = x6 → Q (.inl (some (pI 0))) m6 c n) ∧ (r5 = x6 → Wp g (d + 6) MX4_slot 0 [some (pO 10 8 0), some (pI x1), some (pI x2), some (pI 1)] [] m6 (cI fun r8 m9 => ((¬ r8 = x7 → Q (.inl (some (pI 0))) m9 c n) ∧ (r8 = x7 → Q (.inl (some (pI 1))) m9 c n))))))))))))))) : Wq g (d + 7) ML_isCancelSo c n 236 [some (pO 10 8 0), some (pI x1), some (pI x2), none, some (pI x4), some (pI x5), some (pI x6), some (pI x7), some (pI x8), some (pI x9), some (pI x10), some (pI x11)] [] m Q := by
  refine Wq.iload (x := x8) dL_isCancelSo_236 rfl ?_
  refine Wq.ifeq (tgt := 288) dL_isCancelSo_238 (by decide) (fun q1 => ?_) (fun q1 => ?_)
  · replace h := h.1 q1
    refine Wq.iconst (v := 0) dL_isCancelSo_288 (by decide) ?_
    exact Wq.iret dL_isCancelSo_289 (⟨_, rfl, by decide⟩) h
  · replace h := h.2 q1
    refine Wq.iload (x := x9) dL_isCancelSo_241 rfl ?_
    refine Wq.iload (x := x4) dL_isCancelSo_243 rfl ?_
    refine Wq.icmpne (tgt := 288) dL_isCancelSo_245 (by decide) (fun q2 => ?_) (fun q2 => ?_)
    · replace h := h.1 q2
      refine Wq.iconst (v := 0) dL_isCancelSo_288 (by decide) ?_
      exact Wq.iret dL_isCancelSo_289 (⟨_, rfl, by decide⟩) h
    · replace h := h.2 q2
      refine Wq.iload (x := x10) dL_isCancelSo_248 rfl ?_
      refine Wq.iload (x := x5) dL_isCancelSo_250 rfl ?_
      refine Wq.icmpne (tgt := 288) dL_isCancelSo_252 (by decide) (fun q3 => ?_) (fun q3 => ?_)
      · replace h := h.1 q3
        refine Wq.iconst (v := 0) dL_isCancelSo_288 (by decide) ?_
        exact Wq.iret dL_isCancelSo_289 (⟨_, rfl, by decide⟩) h
      · replace h := h.2 q3
        refine Wq.iload (x := x11) dL_isCancelSo_255 rfl ?_
        refine Wq.iflt (tgt := 288) dL_isCancelSo_257 (by decide) (fun q4 => ?_) (fun q4 => ?_)
        · replace h := h.1 q4
          refine Wq.iconst (v := 0) dL_isCancelSo_288 (by decide) ?_
          exact Wq.iret dL_isCancelSo_289 (⟨_, rfl, by decide⟩) h
        · replace h := h.2 q4
          refine Wq.aload_n (t := 10) (r := 8) (j := 0) dL_isCancelSo_260 rfl ?_
          refine Wq.iload_n (x := x1) dL_isCancelSo_261 rfl ?_
          refine Wq.iload_n (x := x2) dL_isCancelSo_262 rfl ?_
          refine Wq.iconst (v := 0) dL_isCancelSo_263 (by decide) ?_
          refine Wq.callVI (As := [pI x1, pI x2, pI 0]) dL_isCancelSo_264 fX4_slot ml_L_49 rfl (by decide) rfl (Nat.le_of_ble_eq_true rfl) (Nat.le_of_ble_eq_true rfl) h (fun r5 m6 h => ?_)
          refine Wq.iload (x := x6) dL_isCancelSo_267 rfl ?_
          refine Wq.icmpne (tgt := 288) dL_isCancelSo_269 (by decide) (fun q7 => ?_) (fun q7 => ?_)
          · replace h := h.1 q7
            refine Wq.iconst (v := 0) dL_isCancelSo_288 (by decide) ?_
            exact Wq.iret dL_isCancelSo_289 (⟨_, rfl, by decide⟩) h
          · replace h := h.2 q7
            refine Wq.aload_n (t := 10) (r := 8) (j := 0) dL_isCancelSo_272 rfl ?_
            refine Wq.iload_n (x := x1) dL_isCancelSo_273 rfl ?_
            refine Wq.iload_n (x := x2) dL_isCancelSo_274 rfl ?_
            refine Wq.iconst (v := 1) dL_isCancelSo_275 (by decide) ?_
            refine Wq.callVI (As := [pI x1, pI x2, pI 1]) dL_isCancelSo_276 fX4_slot ml_L_49 rfl (by decide) rfl (Nat.le_of_ble_eq_true rfl) (Nat.le_of_ble_eq_true rfl) h (fun r8 m9 h => ?_)
            refine Wq.iload (x := x7) dL_isCancelSo_279 rfl ?_
            refine Wq.icmpne (tgt := 288) dL_isCancelSo_281 (by decide) (fun q10 => ?_) (fun q10 => ?_)
            · replace h := h.1 q10
              refine Wq.iconst (v := 0) dL_isCancelSo_288 (by decide) ?_
              exact Wq.iret dL_isCancelSo_289 (⟨_, rfl, by decide⟩) h
            · replace h := h.2 q10
              refine Wq.iconst (v := 1) dL_isCancelSo_284 (by decide) ?_
              refine Wq.goto (tgt := 289) dL_isCancelSo_285 (by decide) ?_
              exact Wq.iret dL_isCancelSo_289 (⟨_, rfl, by decide⟩) h
set_option maxHeartbeats 4000000 in
set_option maxRecDepth 20000 in
theorem sgL_law_10 {g : GG} {d : Nat} {c n : Nat} {m : PM} {Q : Ou → PM → Nat → Nat → Prop} {x2 : Int32} (h : ((3 ≤ x2 → Wp g (d + 7) MX4_addExaminer 0 [some (pO 10 8 0)] [] m (cI fun r2 m3 => Wq g (d + 8) ML_law c n 33 [some (pO 41 10 0), some (pO 10 8 0), some (pI r2), some (pI 0), none, none, none, none, none, none, none] [] m3 Q)) ∧ (¬ 3 ≤ x2 → Wp g (d + 7) MX4_addPupil 0 [some (pO 10 8 0)] [] m (cI fun r4 m5 => Wq g (d + 8) ML_law c n 10 [some (pO 41 10 0), some (pO 10 8 0), some (pI (x2 + 1)), none, none, none, none, none, none, none, none] [] m5 Q)))) : Wq g (d + 8) ML_law c n 10 [some (pO 41 10 0), some (pO 10 8 0), some (pI x2), none, none, none, none, none, none, none, none] [] m Q := by
  refine Wq.iload_n (x := x2) dL_law_10 rfl ?_
  refine Wq.iconst (v := 3) dL_law_11 (by decide) ?_
  refine Wq.icmpge (tgt := 26) dL_law_12 (by decide) (fun q1 => ?_) (fun q1 => ?_)
  · replace h := h.1 q1
    refine Wq.aload_n (t := 10) (r := 8) (j := 0) dL_law_26 rfl ?_
    refine Wq.callVI (As := []) dL_law_27 fX4_addExaminer ml_L_27 rfl (by decide) rfl (Nat.le_of_ble_eq_true rfl) (Nat.le_of_ble_eq_true rfl) h (fun r2 m3 h => ?_)
    refine Wq.istore_n (ls2 := [some (pO 41 10 0), some (pO 10 8 0), some (pI r2), none, none, none, none, none, none, none, none]) dL_law_30 (by decide) rfl ?_
    refine Wq.iconst (v := 0) dL_law_31 (by decide) ?_
    refine Wq.istore_n (ls2 := [some (pO 41 10 0), some (pO 10 8 0), some (pI r2), some (pI 0), none, none, none, none, none, none, none]) dL_law_32 (by decide) rfl ?_
    exact h
  · replace h := h.2 q1
    refine Wq.aload_n (t := 10) (r := 8) (j := 0) dL_law_15 rfl ?_
    refine Wq.callVI (As := []) dL_law_16 fX4_addPupil ml_L_23 rfl (by decide) rfl (Nat.le_of_ble_eq_true rfl) (Nat.le_of_ble_eq_true rfl) h (fun r4 m5 h => ?_)
    refine Wq.istore_n (ls2 := [some (pO 41 10 0), some (pO 10 8 0), some (pI x2), some (pI r4), none, none, none, none, none, none, none]) dL_law_19 (by decide) rfl ?_
    refine Wq.iinc (x := x2) (ls2 := [some (pO 41 10 0), some (pO 10 8 0), some (pI (x2 + 1)), some (pI r4), none, none, none, none, none, none, none]) dL_law_20 rfl (by decide) rfl ?_
    refine Wq.goto (tgt := 10) dL_law_23 (by decide) ?_
    refine Wq.few (ls' := [some (pO 41 10 0), some (pO 10 8 0), some (pI (x2 + 1)), none, none, none, none, none, none, none, none]) ⟨rfl, ⟨rfl, ⟨rfl, trivial⟩⟩⟩ ?_
    exact h
set_option maxHeartbeats 4000000 in
set_option maxRecDepth 20000 in
theorem sgL_law_33 {g : GG} {d : Nat} {c n : Nat} {m : PM} {Q : Ou → PM → Nat → Nat → Prop} {x2 : Int32} {x3 : Int32} (h : ((52 ≤ x3 → ((¬ x2 = 0 → Q (.inl (some (pI 0))) m c n) ∧ (x2 = 0 → Q (.inl (some (pI 1))) m c n))) ∧ (¬ 52 ≤ x3 → ((¬ (nI (gL g)) ≤ x3 → (vp_in x3 (gL g) ∧ True)) ∧ Wq g (d + 8) ML_law c n 46 [some (pO 41 10 0), some (pO 10 8 0), some (pI x2), some (pI x3), some (pI ((if (nI (gL g)) ≤ x3 then ((7919 * (x3 + 3)) * (x3 + 11)) else (gx g (ix x3))) : Int32)), none, none, none, none, none, none] [] m Q)))) : Wq g (d + 8) ML_law c n 33 [some (pO 41 10 0), some (pO 10 8 0), some (pI x2), some (pI x3), none, none, none, none, none, none, none] [] m Q := by
  refine Wq.iload_n (x := x3) dL_law_33 rfl ?_
  refine Wq.bipush (v := 52) dL_law_34 (by decide) ?_
  refine Wq.icmpge (tgt := 305) dL_law_36 (by decide) (fun q1 => ?_) (fun q1 => ?_)
  · replace h := h.1 q1
    refine Wq.iload_n (x := x2) dL_law_305 rfl ?_
    refine Wq.ifne (tgt := 313) dL_law_306 (by decide) (fun q2 => ?_) (fun q2 => ?_)
    · replace h := h.1 q2
      refine Wq.iconst (v := 0) dL_law_313 (by decide) ?_
      exact Wq.iret dL_law_314 (⟨_, rfl, by decide⟩) h
    · replace h := h.2 q2
      refine Wq.iconst (v := 1) dL_law_309 (by decide) ?_
      refine Wq.goto (tgt := 314) dL_law_310 (by decide) ?_
      exact Wq.iret dL_law_314 (⟨_, rfl, by decide⟩) h
  · replace h := h.2 q1
    refine Wq.aload_n (t := 41) (r := 10) (j := 0) dL_law_39 rfl ?_
    refine Wq.iload_n (x := x3) dL_law_40 rfl ?_
    refine Wq.callSI (As := [pO 41 10 0, pI x3]) dL_law_41 fL_cell ml_L_72 rfl (Nat.le_of_ble_eq_true rfl) (Nat.le_of_ble_eq_true rfl) (suL_cell h.1) (fun x3 m9 e9 => ?_)
    obtain ⟨rfl, rfl⟩ := e9
    replace h := h.2
    refine Wq.istore (ls2 := [some (pO 41 10 0), some (pO 10 8 0), some (pI x2), some (pI x3), some (pI ((if (nI (gL g)) ≤ x3 then ((7919 * (x3 + 3)) * (x3 + 11)) else (gx g (ix x3))) : Int32)), none, none, none, none, none, none]) dL_law_44 (by decide) rfl ?_
    exact h
set_option maxHeartbeats 4000000 in
set_option maxRecDepth 20000 in
theorem sgL_law_46 {g : GG} {d : Nat} {c n : Nat} {m : PM} {Q : Ou → PM → Nat → Nat → Prop} {x2 : Int32} {x3 : Int32} {x4 : Int32} (h : Wp g (d + 7) MX4_count 0 [some (pO 10 8 0), some (pI 2)] [] m (cI fun r1 m2 => ((¬ r1 = 0 ∧ True) ∧ Wq g (d + 8) ML_law c n 64 [some (pO 41 10 0), some (pO 10 8 0), some (pI x2), some (pI x3), some (pI x4), none, some (pI (irm ((x4 >>> (4 &&& 31)) &&& 2147483647) r1)), none, none, none, none] [] m2 Q))) : Wq g (d + 8) ML_law c n 46 [some (pO 41 10 0), some (pO 10 8 0), some (pI x2), some (pI x3), some (pI x4), none, none, none, none, none, none] [] m Q := by
  refine Wq.aload_n (t := 10) (r := 8) (j := 0) dL_law_46 rfl ?_
  refine Wq.iconst (v := 2) dL_law_47 (by decide) ?_
  refine Wq.callVI (As := [pI 2]) dL_law_48 fX4_count ml_L_8 rfl (by decide) rfl (Nat.le_of_ble_eq_true rfl) (Nat.le_of_ble_eq_true rfl) h (fun r1 m2 h => ?_)
  refine Wq.istore (ls2 := [some (pO 41 10 0), some (pO 10 8 0), some (pI x2), some (pI x3), some (pI x4), some (pI r1), none, none, none, none, none]) dL_law_51 (by decide) rfl ?_
  refine Wq.iload (x := x4) dL_law_53 rfl ?_
  refine Wq.iconst (v := 4) dL_law_55 (by decide) ?_
  refine Wq.ishr dL_law_56 ?_
  refine Wq.iload (x := r1) dL_law_57 rfl ?_
  refine Wq.callSI (As := [pI (x4 >>> (4 &&& 31)), pI r1]) dL_law_59 fL_low ml_L_14 rfl (Nat.le_of_ble_eq_true rfl) (Nat.le_of_ble_eq_true rfl) (suL_low h.1) (fun x3 m9 e9 => ?_)
  obtain ⟨rfl, rfl⟩ := e9
  replace h := h.2
  refine Wq.istore (ls2 := [some (pO 41 10 0), some (pO 10 8 0), some (pI x2), some (pI x3), some (pI x4), some (pI r1), some (pI (irm ((x4 >>> (4 &&& 31)) &&& 2147483647) r1)), none, none, none, none]) dL_law_62 (by decide) rfl ?_
  refine Wq.few (ls' := [some (pO 41 10 0), some (pO 10 8 0), some (pI x2), some (pI x3), some (pI x4), none, some (pI (irm ((x4 >>> (4 &&& 31)) &&& 2147483647) r1)), none, none, none, none]) ⟨rfl, ⟨rfl, ⟨rfl, ⟨rfl, ⟨rfl, ⟨rfl, trivial⟩⟩⟩⟩⟩⟩ ?_
  exact h
set_option maxHeartbeats 4000000 in
set_option maxRecDepth 20000 in
theorem sgL_law_64 {g : GG} {d : Nat} {c n : Nat} {m : PM} {Q : Ou → PM → Nat → Nat → Prop} {x2 : Int32} {x3 : Int32} {x4 : Int32} {x6 : Int32} (h : (((x4 &&& 15) ≤ 8 → Wq g (d + 8) ML_law c n 112 [some (pO 41 10 0), some (pO 10 8 0), some (pI x2), some (pI x3), some (pI x4), none, some (pI x6), some (pI 0), none, none, none] [] m Q) ∧ (¬ (x4 &&& 15) ≤ 8 → ((12 ≤ (x4 &&& 15) → Wq g (d + 8) ML_law c n 112 [some (pO 41 10 0), some (pO 10 8 0), some (pI x2), some (pI x3), some (pI x4), none, some (pI x6), some (pI 0), none, none, none] [] m Q) ∧ (¬ 12 ≤ (x4 &&& 15) → Wp g (d + 7) MX4_pupil 0 [some (pO 10 8 0), some (pI x6), some (pI 0)] [] m (cI fun r3 m4 => ((¬ r3 = 2 → Wq g (d + 8) ML_law c n 112 [some (pO 41 10 0), some (pO 10 8 0), some (pI x2), some (pI x3), some (pI x4), none, some (pI x6), some (pI 0), none, none, none] [] m4 Q) ∧ (r3 = 2 → Wp g (d + 7) MX4_pupil 0 [some (pO 10 8 0), some (pI x6), some (pI 5)] [] m4 (cI fun r6 m7 => ((¬ r6 = 0 → Wq g (d + 8) ML_law c n 112 [some (pO 41 10 0), some (pO 10 8 0), some (pI x2), some (pI x3), some (pI x4), none, some (pI x6), some (pI 0), none, none, none] [] m7 Q) ∧ (r6 = 0 → Wq g (d + 8) ML_law c n 112 [some (pO 41 10 0), some (pO 10 8 0), some (pI x2), some (pI x3), some (pI x4), none, some (pI x6), some (pI 1), none, none, none] [] m7 Q))))))))))) : Wq g (d + 8) ML_law c n 64 [some (pO 41 10 0), some (pO 10 8 0), some (pI x2), some (pI x3), some (pI x4), none, some (pI x6), none, none, none, none] [] m Q := by
  refine Wq.iload (x := x4) dL_law_64 rfl ?_
  refine Wq.bipush (v := 15) dL_law_66 (by decide) ?_
  refine Wq.iand dL_law_68 ?_
  refine Wq.bipush (v := 8) dL_law_69 (by decide) ?_
  refine Wq.icmple (tgt := 109) dL_law_71 (by decide) (fun q1 => ?_) (fun q1 => ?_)
  · replace h := h.1 q1
    refine Wq.iconst (v := 0) dL_law_109 (by decide) ?_
    refine Wq.istore (ls2 := [some (pO 41 10 0), some (pO 10 8 0), some (pI x2), some (pI x3), some (pI x4), none, some (pI x6), some (pI 0), none, none, none]) dL_law_110 (by decide) rfl ?_
    exact h
  · replace h := h.2 q1
    refine Wq.iload (x := x4) dL_law_74 rfl ?_
    refine Wq.bipush (v := 15) dL_law_76 (by decide) ?_
    refine Wq.iand dL_law_78 ?_
    refine Wq.bipush (v := 12) dL_law_79 (by decide) ?_
    refine Wq.icmpge (tgt := 109) dL_law_81 (by decide) (fun q2 => ?_) (fun q2 => ?_)
    · replace h := h.1 q2
      refine Wq.iconst (v := 0) dL_law_109 (by decide) ?_
      refine Wq.istore (ls2 := [some (pO 41 10 0), some (pO 10 8 0), some (pI x2), some (pI x3), some (pI x4), none, some (pI x6), some (pI 0), none, none, none]) dL_law_110 (by decide) rfl ?_
      exact h
    · replace h := h.2 q2
      refine Wq.aload_n (t := 10) (r := 8) (j := 0) dL_law_84 rfl ?_
      refine Wq.iload (x := x6) dL_law_85 rfl ?_
      refine Wq.iconst (v := 0) dL_law_87 (by decide) ?_
      refine Wq.callVI (As := [pI x6, pI 0]) dL_law_88 fX4_pupil ml_L_20 rfl (by decide) rfl (Nat.le_of_ble_eq_true rfl) (Nat.le_of_ble_eq_true rfl) h (fun r3 m4 h => ?_)
      refine Wq.iconst (v := 2) dL_law_91 (by decide) ?_
      refine Wq.icmpne (tgt := 109) dL_law_92 (by decide) (fun q5 => ?_) (fun q5 => ?_)
      · replace h := h.1 q5
        refine Wq.iconst (v := 0) dL_law_109 (by decide) ?_
        refine Wq.istore (ls2 := [some (pO 41 10 0), some (pO 10 8 0), some (pI x2), some (pI x3), some (pI x4), none, some (pI x6), some (pI 0), none, none, none]) dL_law_110 (by decide) rfl ?_
        exact h
      · replace h := h.2 q5
        refine Wq.aload_n (t := 10) (r := 8) (j := 0) dL_law_95 rfl ?_
        refine Wq.iload (x := x6) dL_law_96 rfl ?_
        refine Wq.iconst (v := 5) dL_law_98 (by decide) ?_
        refine Wq.callVI (As := [pI x6, pI 5]) dL_law_99 fX4_pupil ml_L_20 rfl (by decide) rfl (Nat.le_of_ble_eq_true rfl) (Nat.le_of_ble_eq_true rfl) h (fun r6 m7 h => ?_)
        refine Wq.ifne (tgt := 109) dL_law_102 (by decide) (fun q8 => ?_) (fun q8 => ?_)
        · replace h := h.1 q8
          refine Wq.iconst (v := 0) dL_law_109 (by decide) ?_
          refine Wq.istore (ls2 := [some (pO 41 10 0), some (pO 10 8 0), some (pI x2), some (pI x3), some (pI x4), none, some (pI x6), some (pI 0), none, none, none]) dL_law_110 (by decide) rfl ?_
          exact h
        · replace h := h.2 q8
          refine Wq.iconst (v := 1) dL_law_105 (by decide) ?_
          refine Wq.goto (tgt := 110) dL_law_106 (by decide) ?_
          refine Wq.istore (ls2 := [some (pO 41 10 0), some (pO 10 8 0), some (pI x2), some (pI x3), some (pI x4), none, some (pI x6), some (pI 1), none, none, none]) dL_law_110 (by decide) rfl ?_
          exact h
set_option maxHeartbeats 4000000 in
set_option maxRecDepth 20000 in
theorem sgL_law_112 {g : GG} {d : Nat} {c n : Nat} {m : PM} {Q : Ou → PM → Nat → Nat → Prop} {x2 : Int32} {x3 : Int32} {x4 : Int32} {x6 : Int32} {x7 : Int32} (h : ((x7 = 0 → Wq g (d + 8) ML_law c n 137 [some (pO 41 10 0), some (pO 10 8 0), some (pI x2), some (pI x3), some (pI x4), none, some (pI x6), some (pI x7), some (pI 0), none, none] [] m Q) ∧ (¬ x7 = 0 → Wp g (d + 7) MX4_pupil 0 [some (pO 10 8 0), some (pI x6), some (pI 7)] [] m (cI fun r2 m3 => Wp g (d + 7) MX4_ifTested 0 [some (pO 10 8 0), some (pI x6), some (pI r2)] [] m3 (cI fun r4 m5 => Wq g (d + 8) ML_law c n 137 [some (pO 41 10 0), some (pO 10 8 0), some (pI x2), some (pI x3), some (pI x4), none, some (pI x6), some (pI x7), some (pI r4), none, none] [] m5 Q))))) : Wq g (d + 8) ML_law c n 112 [some (pO 41 10 0), some (pO 10 8 0), some (pI x2), some (pI x3), some (pI x4), none, some (pI x6), some (pI x7), none, none, none] [] m Q := by
  refine Wq.iload (x := x7) dL_law_112 rfl ?_
  refine Wq.ifeq (tgt := 134) dL_law_114 (by decide) (fun q1 => ?_) (fun q1 => ?_)
  · replace h := h.1 q1
    refine Wq.iconst (v := 0) dL_law_134 (by decide) ?_
    refine Wq.istore (ls2 := [some (pO 41 10 0), some (pO 10 8 0), some (pI x2), some (pI x3), some (pI x4), none, some (pI x6), some (pI x7), some (pI 0), none, none]) dL_law_135 (by decide) rfl ?_
    exact h
  · replace h := h.2 q1
    refine Wq.aload_n (t := 10) (r := 8) (j := 0) dL_law_117 rfl ?_
    refine Wq.iload (x := x6) dL_law_118 rfl ?_
    refine Wq.aload_n (t := 10) (r := 8) (j := 0) dL_law_120 rfl ?_
    refine Wq.iload (x := x6) dL_law_121 rfl ?_
    refine Wq.bipush (v := 7) dL_law_123 (by decide) ?_
    refine Wq.callVI (As := [pI x6, pI 7]) dL_law_125 fX4_pupil ml_L_20 rfl (by decide) rfl (Nat.le_of_ble_eq_true rfl) (Nat.le_of_ble_eq_true rfl) h (fun r2 m3 h => ?_)
    refine Wq.callVI (As := [pI x6, pI r2]) dL_law_128 fX4_ifTested ml_L_76 rfl (by decide) rfl (Nat.le_of_ble_eq_true rfl) (Nat.le_of_ble_eq_true rfl) h (fun r4 m5 h => ?_)
    refine Wq.goto (tgt := 135) dL_law_131 (by decide) ?_
    refine Wq.istore (ls2 := [some (pO 41 10 0), some (pO 10 8 0), some (pI x2), some (pI x3), some (pI x4), none, some (pI x6), some (pI x7), some (pI r4), none, none]) dL_law_135 (by decide) rfl ?_
    exact h
set_option maxHeartbeats 4000000 in
set_option maxRecDepth 20000 in
theorem sgL_law_137 {g : GG} {d : Nat} {c n : Nat} {m : PM} {Q : Ou → PM → Nat → Nat → Prop} {x2 : Int32} {x3 : Int32} {x4 : Int32} {x6 : Int32} {x7 : Int32} {x8 : Int32} (h : ((x7 = 0 → Wq g (d + 8) ML_law c n 155 [some (pO 41 10 0), some (pO 10 8 0), some (pI x2), some (pI x3), some (pI x4), none, some (pI x6), some (pI x7), some (pI x8), some (pI 0), none] [] m Q) ∧ (¬ x7 = 0 → Wp g (d + 7) MX4_pupil 0 [some (pO 10 8 0), some (pI x6), some (pI 3)] [] m (cI fun r2 m3 => Wq g (d + 8) ML_law c n 155 [some (pO 41 10 0), some (pO 10 8 0), some (pI x2), some (pI x3), some (pI x4), none, some (pI x6), some (pI x7), some (pI x8), some (pI r2), none] [] m3 Q)))) : Wq g (d + 8) ML_law c n 137 [some (pO 41 10 0), some (pO 10 8 0), some (pI x2), some (pI x3), some (pI x4), none, some (pI x6), some (pI x7), some (pI x8), none, none] [] m Q := by
  refine Wq.iload (x := x7) dL_law_137 rfl ?_
  refine Wq.ifeq (tgt := 152) dL_law_139 (by decide) (fun q1 => ?_) (fun q1 => ?_)
  · replace h := h.1 q1
    refine Wq.iconst (v := 0) dL_law_152 (by decide) ?_
    refine Wq.istore (ls2 := [some (pO 41 10 0), some (pO 10 8 0), some (pI x2), some (pI x3), some (pI x4), none, some (pI x6), some (pI x7), some (pI x8), some (pI 0), none]) dL_law_153 (by decide) rfl ?_
    exact h
  · replace h := h.2 q1
    refine Wq.aload_n (t := 10) (r := 8) (j := 0) dL_law_142 rfl ?_
    refine Wq.iload (x := x6) dL_law_143 rfl ?_
    refine Wq.iconst (v := 3) dL_law_145 (by decide) ?_
    refine Wq.callVI (As := [pI x6, pI 3]) dL_law_146 fX4_pupil ml_L_20 rfl (by decide) rfl (Nat.le_of_ble_eq_true rfl) (Nat.le_of_ble_eq_true rfl) h (fun r2 m3 h => ?_)
    refine Wq.goto (tgt := 153) dL_law_149 (by decide) ?_
    refine Wq.istore (ls2 := [some (pO 41 10 0), some (pO 10 8 0), some (pI x2), some (pI x3), some (pI x4), none, some (pI x6), some (pI x7), some (pI x8), some (pI r2), none]) dL_law_153 (by decide) rfl ?_
    exact h
set_option maxHeartbeats 4000000 in
set_option maxRecDepth 20000 in
theorem sgL_law_155 {g : GG} {d : Nat} {c n : Nat} {m : PM} {Q : Ou → PM → Nat → Nat → Prop} {x2 : Int32} {x3 : Int32} {x4 : Int32} {x6 : Int32} {x7 : Int32} {x8 : Int32} {x9 : Int32} (h : Wp g (d + 7) ML_does 0 [some (pO 10 8 0), some (pI x4)] [] m (cI fun r1 m2 => Wq g (d + 8) ML_law c n 163 [some (pO 41 10 0), some (pO 10 8 0), some (pI x2), some (pI x3), some (pI x4), none, some (pI x6), some (pI x7), some (pI x8), some (pI x9), some (pI r1)] [] m2 Q)) : Wq g (d + 8) ML_law c n 155 [some (pO 41 10 0), some (pO 10 8 0), some (pI x2), some (pI x3), some (pI x4), none, some (pI x6), some (pI x7), some (pI x8), some (pI x9), none] [] m Q := by
  refine Wq.aload_n (t := 10) (r := 8) (j := 0) dL_law_155 rfl ?_
  refine Wq.iload (x := x4) dL_law_156 rfl ?_
  refine Wq.callSI (As := [pO 10 8 0, pI x4]) dL_law_158 fL_does ml_L_79 rfl (Nat.le_of_ble_eq_true rfl) (Nat.le_of_ble_eq_true rfl) h (fun r1 m2 h => ?_)
  refine Wq.istore (ls2 := [some (pO 41 10 0), some (pO 10 8 0), some (pI x2), some (pI x3), some (pI x4), none, some (pI x6), some (pI x7), some (pI x8), some (pI x9), some (pI r1)]) dL_law_161 (by decide) rfl ?_
  exact h
set_option maxHeartbeats 4000000 in
set_option maxRecDepth 20000 in
theorem sgL_law_163 {g : GG} {d : Nat} {c n : Nat} {m : PM} {Q : Ou → PM → Nat → Nat → Prop} {x2 : Int32} {x3 : Int32} {x4 : Int32} {x6 : Int32} {x7 : Int32} {x8 : Int32} {x9 : Int32} {x10 : Int32} (h : ((x7 = 0 → Wq g (d + 8) ML_law c n 194 [some (pO 41 10 0), some (pO 10 8 0), some (pI x2), some (pI x3), some (pI x4), none, none, none, none, none, none] [] m Q) ∧ (¬ x7 = 0 → ((¬ x10 = x8 → Q (.inl (some (pI 0))) m c n) ∧ (x10 = x8 → ((x8 = x9 → Q (.inl (some (pI 0))) m c n) ∧ (¬ x8 = x9 → Wp g (d + 7) MX4_pupil 0 [some (pO 10 8 0), some (pI x6), some (pI 3)] [] m (cI fun r4 m5 => ((¬ r4 = x8 → Q (.inl (some (pI 0))) m5 c n) ∧ (r4 = x8 → Wq g (d + 8) ML_law c n 194 [some (pO 41 10 0), some (pO 10 8 0), some (pI x2), some (pI x3), some (pI x4), none, none, none, none, none, none] [] m5 Q)))))))))) : Wq g (d + 8) ML_law c n 163 [some (pO 41 10 0), some (pO 10 8 0), some (pI x2), some (pI x3), some (pI x4), none, some (pI x6), some (pI x7), some (pI x8), some (pI x9), some (pI x10)] [] m Q := by
  refine Wq.iload (x := x7) dL_law_163 rfl ?_
  refine Wq.ifeq (tgt := 194) dL_law_165 (by decide) (fun q1 => ?_) (fun q1 => ?_)
  · replace h := h.1 q1
    refine Wq.few (ls' := [some (pO 41 10 0), some (pO 10 8 0), some (pI x2), some (pI x3), some (pI x4), none, none, none, none, none, none]) ⟨rfl, ⟨rfl, ⟨rfl, ⟨rfl, ⟨rfl, trivial⟩⟩⟩⟩⟩ ?_
    exact h
  · replace h := h.2 q1
    refine Wq.iload (x := x10) dL_law_168 rfl ?_
    refine Wq.iload (x := x8) dL_law_170 rfl ?_
    refine Wq.icmpne (tgt := 215) dL_law_172 (by decide) (fun q2 => ?_) (fun q2 => ?_)
    · replace h := h.1 q2
      refine Wq.iconst (v := 0) dL_law_215 (by decide) ?_
      exact Wq.iret dL_law_216 (⟨_, rfl, by decide⟩) h
    · replace h := h.2 q2
      refine Wq.iload (x := x8) dL_law_175 rfl ?_
      refine Wq.iload (x := x9) dL_law_177 rfl ?_
      refine Wq.icmpeq (tgt := 215) dL_law_179 (by decide) (fun q3 => ?_) (fun q3 => ?_)
      · replace h := h.1 q3
        refine Wq.iconst (v := 0) dL_law_215 (by decide) ?_
        exact Wq.iret dL_law_216 (⟨_, rfl, by decide⟩) h
      · replace h := h.2 q3
        refine Wq.aload_n (t := 10) (r := 8) (j := 0) dL_law_182 rfl ?_
        refine Wq.iload (x := x6) dL_law_183 rfl ?_
        refine Wq.iconst (v := 3) dL_law_185 (by decide) ?_
        refine Wq.callVI (As := [pI x6, pI 3]) dL_law_186 fX4_pupil ml_L_20 rfl (by decide) rfl (Nat.le_of_ble_eq_true rfl) (Nat.le_of_ble_eq_true rfl) h (fun r4 m5 h => ?_)
        refine Wq.iload (x := x8) dL_law_189 rfl ?_
        refine Wq.icmpne (tgt := 215) dL_law_191 (by decide) (fun q6 => ?_) (fun q6 => ?_)
        · replace h := h.1 q6
          refine Wq.iconst (v := 0) dL_law_215 (by decide) ?_
          exact Wq.iret dL_law_216 (⟨_, rfl, by decide⟩) h
        · replace h := h.2 q6
          refine Wq.few (ls' := [some (pO 41 10 0), some (pO 10 8 0), some (pI x2), some (pI x3), some (pI x4), none, none, none, none, none, none]) ⟨rfl, ⟨rfl, ⟨rfl, ⟨rfl, ⟨rfl, trivial⟩⟩⟩⟩⟩ ?_
          exact h
set_option maxHeartbeats 4000000 in
set_option maxRecDepth 20000 in
theorem sgL_law_194 {g : GG} {d : Nat} {c n : Nat} {m : PM} {Q : Ou → PM → Nat → Nat → Prop} {x2 : Int32} {x3 : Int32} {x4 : Int32} (h : Wp g (d + 7) ML_arePupilsSo 0 [some (pO 10 8 0)] [] m (cI fun r1 m2 => ((r1 = 0 → Q (.inl (some (pI 0))) m2 c n) ∧ (¬ r1 = 0 → ((¬ (irm x3 3) = 1 → Wq g (d + 8) ML_law c n 217 [some (pO 41 10 0), some (pO 10 8 0), some (pI x2), some (pI x3), some (pI x4), none, none, none, none, none, none] [] m2 Q) ∧ ((irm x3 3) = 1 → Wp g (d + 7) ML_areExaminersSo 0 [some (pO 10 8 0)] [] m2 (cI fun r5 m6 => ((¬ r5 = 0 → Wq g (d + 8) ML_law c n 217 [some (pO 41 10 0), some (pO 10 8 0), some (pI x2), some (pI x3), some (pI x4), none, none, none, none, none, none] [] m6 Q) ∧ (r5 = 0 → Q (.inl (some (pI 0))) m6 c n))))))))) : Wq g (d + 8) ML_law c n 194 [some (pO 41 10 0), some (pO 10 8 0), some (pI x2), some (pI x3), some (pI x4), none, none, none, none, none, none] [] m Q := by
  refine Wq.aload_n (t := 10) (r := 8) (j := 0) dL_law_194 rfl ?_
  refine Wq.callSI (As := [pO 10 8 0]) dL_law_195 fL_arePupilsSo ml_L_83 rfl (Nat.le_of_ble_eq_true rfl) (Nat.le_of_ble_eq_true rfl) h (fun r1 m2 h => ?_)
  refine Wq.ifeq (tgt := 215) dL_law_198 (by decide) (fun q3 => ?_) (fun q3 => ?_)
  · replace h := h.1 q3
    refine Wq.iconst (v := 0) dL_law_215 (by decide) ?_
    exact Wq.iret dL_law_216 (⟨_, rfl, by decide⟩) h
  · replace h := h.2 q3
    refine Wq.iload_n (x := x3) dL_law_201 rfl ?_
    refine Wq.iconst (v := 3) dL_law_202 (by decide) ?_
    refine Wq.irem dL_law_203 (by decide) ?_
    refine Wq.iconst (v := 1) dL_law_204 (by decide) ?_
    refine Wq.icmpne (tgt := 217) dL_law_205 (by decide) (fun q4 => ?_) (fun q4 => ?_)
    · replace h := h.1 q4
      exact h
    · replace h := h.2 q4
      refine Wq.aload_n (t := 10) (r := 8) (j := 0) dL_law_208 rfl ?_
      refine Wq.callSI (As := [pO 10 8 0]) dL_law_209 fL_areExaminersSo ml_L_87 rfl (Nat.le_of_ble_eq_true rfl) (Nat.le_of_ble_eq_true rfl) h (fun r5 m6 h => ?_)
      refine Wq.ifne (tgt := 217) dL_law_212 (by decide) (fun q7 => ?_) (fun q7 => ?_)
      · replace h := h.1 q7
        exact h
      · replace h := h.2 q7
        refine Wq.iconst (v := 0) dL_law_215 (by decide) ?_
        exact Wq.iret dL_law_216 (⟨_, rfl, by decide⟩) h
set_option maxHeartbeats 4000000 in
set_option maxRecDepth 20000 in
theorem sgL_law_217 {g : GG} {d : Nat} {c n : Nat} {m : PM} {Q : Ou → PM → Nat → Nat → Prop} {x2 : Int32} {x3 : Int32} {x4 : Int32} (h : ((¬ (irm x3 4) = 2 → Wq g (d + 8) ML_law c n 254 [some (pO 41 10 0), some (pO 10 8 0), some (pI x2), some (pI x3), some (pI x4), none, none, none, none, none, none] [] m Q) ∧ ((irm x3 4) = 2 → Wp g (d + 7) MX4_count 0 [some (pO 10 8 0), some (pI 1)] [] m (cI fun r2 m3 => ((¬ r2 = 0 ∧ True) ∧ ((¬ (10 : Int32) = 0 ∧ True) ∧ Wp g (d + 7) ML_isCancelSo 0 [some (pO 10 8 0), some (pI (irm ((x4 >>> (6 &&& 31)) &&& 2147483647) r2)), some (pI (irm ((x4 >>> (9 &&& 31)) &&& 2147483647) (10 : Int32)))] [] m3 (cI fun r4 m5 => ((r4 = 0 → Q (.inl (some (pI 0))) m5 c n) ∧ (¬ r4 = 0 → Wq g (d + 8) ML_law c n 254 [some (pO 41 10 0), some (pO 10 8 0), some (pI x2), some (pI x3), some (pI x4), none, none, none, none, none, none] [] m5 Q))))))))) : Wq g (d + 8) ML_law c n 217 [some (pO 41 10 0), some (pO 10 8 0), some (pI x2), some (pI x3), some (pI x4), none, none, none, none, none, none] [] m Q := by
  refine Wq.iload_n (x := x3) dL_law_217 rfl ?_
  refine Wq.iconst (v := 4) dL_law_218 (by decide) ?_
  refine Wq.irem dL_law_219 (by decide) ?_
  refine Wq.iconst (v := 2) dL_law_220 (by decide) ?_
  refine Wq.icmpne (tgt := 254) dL_law_221 (by decide) (fun q1 => ?_) (fun q1 => ?_)
  · replace h := h.1 q1
    exact h
  · replace h := h.2 q1
    refine Wq.aload_n (t := 10) (r := 8) (j := 0) dL_law_224 rfl ?_
    refine Wq.iload (x := x4) dL_law_225 rfl ?_
    refine Wq.bipush (v := 6) dL_law_227 (by decide) ?_
    refine Wq.ishr dL_law_229 ?_
    refine Wq.aload_n (t := 10) (r := 8) (j := 0) dL_law_230 rfl ?_
    refine Wq.iconst (v := 1) dL_law_231 (by decide) ?_
    refine Wq.callVI (As := [pI 1]) dL_law_232 fX4_count ml_L_8 rfl (by decide) rfl (Nat.le_of_ble_eq_true rfl) (Nat.le_of_ble_eq_true rfl) h (fun r2 m3 h => ?_)
    refine Wq.callSI (As := [pI (x4 >>> (6 &&& 31)), pI r2]) dL_law_235 fL_low ml_L_14 rfl (Nat.le_of_ble_eq_true rfl) (Nat.le_of_ble_eq_true rfl) (suL_low h.1) (fun x8 m9 e9 => ?_)
    obtain ⟨rfl, rfl⟩ := e9
    replace h := h.2
    refine Wq.iload (x := x4) dL_law_238 rfl ?_
    refine Wq.bipush (v := 9) dL_law_240 (by decide) ?_
    refine Wq.ishr dL_law_242 ?_
    refine Wq.bipush (v := 10) dL_law_243 (by decide) ?_
    refine Wq.callSI (As := [pI (x4 >>> (9 &&& 31)), pI 10]) dL_law_245 fL_low ml_L_14 rfl (Nat.le_of_ble_eq_true rfl) (Nat.le_of_ble_eq_true rfl) (suL_low h.1) (fun x7 m9 e9 => ?_)
    obtain ⟨rfl, rfl⟩ := e9
    replace h := h.2
    refine Wq.callSI (As := [pO 10 8 0, pI (irm ((x4 >>> (6 &&& 31)) &&& 2147483647) r2), pI (irm ((x4 >>> (9 &&& 31)) &&& 2147483647) (10 : Int32))]) dL_law_248 fL_isCancelSo ml_L_90 rfl (Nat.le_of_ble_eq_true rfl) (Nat.le_of_ble_eq_true rfl) h (fun r4 m5 h => ?_)
    refine Wq.ifeq (tgt := 297) dL_law_251 (by decide) (fun q6 => ?_) (fun q6 => ?_)
    · replace h := h.1 q6
      refine Wq.iconst (v := 0) dL_law_297 (by decide) ?_
      exact Wq.iret dL_law_298 (⟨_, rfl, by decide⟩) h
    · replace h := h.2 q6
      exact h
set_option maxHeartbeats 4000000 in
set_option maxRecDepth 20000 in
theorem sgL_law_254 {g : GG} {d : Nat} {c n : Nat} {m : PM} {Q : Ou → PM → Nat → Nat → Prop} {x2 : Int32} {x3 : Int32} {x4 : Int32} (h : ((¬ (irm x3 5) = 3 → Wq g (d + 8) ML_law c n 280 [some (pO 41 10 0), some (pO 10 8 0), some (pI x2), some (pI x3), some (pI x4), none, none, none, none, none, none] [] m Q) ∧ ((irm x3 5) = 3 → Wp g (d + 7) MX4_count 0 [some (pO 10 8 0), some (pI 2)] [] m (cI fun r2 m3 => ((¬ r2 = 0 ∧ True) ∧ Wp g (d + 7) ML_isAskSo 0 [some (pO 10 8 0), some (pI (irm ((x4 >>> (5 &&& 31)) &&& 2147483647) r2))] [] m3 (cI fun r4 m5 => ((r4 = 0 → Q (.inl (some (pI 0))) m5 c n) ∧ (¬ r4 = 0 → Wq g (d + 8) ML_law c n 280 [some (pO 41 10 0), some (pO 10 8 0), some (pI x2), some (pI x3), some (pI x4), none, none, none, none, none, none] [] m5 Q)))))))) : Wq g (d + 8) ML_law c n 254 [some (pO 41 10 0), some (pO 10 8 0), some (pI x2), some (pI x3), some (pI x4), none, none, none, none, none, none] [] m Q := by
  refine Wq.iload_n (x := x3) dL_law_254 rfl ?_
  refine Wq.iconst (v := 5) dL_law_255 (by decide) ?_
  refine Wq.irem dL_law_256 (by decide) ?_
  refine Wq.iconst (v := 3) dL_law_257 (by decide) ?_
  refine Wq.icmpne (tgt := 280) dL_law_258 (by decide) (fun q1 => ?_) (fun q1 => ?_)
  · replace h := h.1 q1
    exact h
  · replace h := h.2 q1
    refine Wq.aload_n (t := 10) (r := 8) (j := 0) dL_law_261 rfl ?_
    refine Wq.iload (x := x4) dL_law_262 rfl ?_
    refine Wq.iconst (v := 5) dL_law_264 (by decide) ?_
    refine Wq.ishr dL_law_265 ?_
    refine Wq.aload_n (t := 10) (r := 8) (j := 0) dL_law_266 rfl ?_
    refine Wq.iconst (v := 2) dL_law_267 (by decide) ?_
    refine Wq.callVI (As := [pI 2]) dL_law_268 fX4_count ml_L_8 rfl (by decide) rfl (Nat.le_of_ble_eq_true rfl) (Nat.le_of_ble_eq_true rfl) h (fun r2 m3 h => ?_)
    refine Wq.callSI (As := [pI (x4 >>> (5 &&& 31)), pI r2]) dL_law_271 fL_low ml_L_14 rfl (Nat.le_of_ble_eq_true rfl) (Nat.le_of_ble_eq_true rfl) (suL_low h.1) (fun x7 m9 e9 => ?_)
    obtain ⟨rfl, rfl⟩ := e9
    replace h := h.2
    refine Wq.callSI (As := [pO 10 8 0, pI (irm ((x4 >>> (5 &&& 31)) &&& 2147483647) r2)]) dL_law_274 fL_isAskSo ml_L_94 rfl (Nat.le_of_ble_eq_true rfl) (Nat.le_of_ble_eq_true rfl) h (fun r4 m5 h => ?_)
    refine Wq.ifeq (tgt := 297) dL_law_277 (by decide) (fun q6 => ?_) (fun q6 => ?_)
    · replace h := h.1 q6
      refine Wq.iconst (v := 0) dL_law_297 (by decide) ?_
      exact Wq.iret dL_law_298 (⟨_, rfl, by decide⟩) h
    · replace h := h.2 q6
      exact h
set_option maxHeartbeats 4000000 in
set_option maxRecDepth 20000 in
theorem sgL_law_280 {g : GG} {d : Nat} {c n : Nat} {m : PM} {Q : Ou → PM → Nat → Nat → Prop} {x2 : Int32} {x3 : Int32} {x4 : Int32} (h : ((¬ (10 : Int32) = 0 ∧ True) ∧ Wp g (d + 7) ML_couldSo 0 [some (pO 10 8 0), some (pI (irm ((x4 >>> (8 &&& 31)) &&& 2147483647) (10 : Int32)))] [] m (cI fun r1 m2 => ((¬ r1 = 0 → Wq g (d + 8) ML_law c n 33 [some (pO 41 10 0), some (pO 10 8 0), some (pI x2), some (pI (x3 + 1)), none, none, none, none, none, none, none] [] m2 Q) ∧ (r1 = 0 → Q (.inl (some (pI 0))) m2 c n))))) : Wq g (d + 8) ML_law c n 280 [some (pO 41 10 0), some (pO 10 8 0), some (pI x2), some (pI x3), some (pI x4), none, none, none, none, none, none] [] m Q := by
  refine Wq.aload_n (t := 10) (r := 8) (j := 0) dL_law_280 rfl ?_
  refine Wq.iload (x := x4) dL_law_281 rfl ?_
  refine Wq.bipush (v := 8) dL_law_283 (by decide) ?_
  refine Wq.ishr dL_law_285 ?_
  refine Wq.bipush (v := 10) dL_law_286 (by decide) ?_
  refine Wq.callSI (As := [pI (x4 >>> (8 &&& 31)), pI 10]) dL_law_288 fL_low ml_L_14 rfl (Nat.le_of_ble_eq_true rfl) (Nat.le_of_ble_eq_true rfl) (suL_low h.1) (fun x4 m9 e9 => ?_)
  obtain ⟨rfl, rfl⟩ := e9
  replace h := h.2
  refine Wq.callSI (As := [pO 10 8 0, pI (irm ((x4 >>> (8 &&& 31)) &&& 2147483647) (10 : Int32))]) dL_law_291 fL_couldSo ml_L_98 rfl (Nat.le_of_ble_eq_true rfl) (Nat.le_of_ble_eq_true rfl) h (fun r1 m2 h => ?_)
  refine Wq.ifne (tgt := 299) dL_law_294 (by decide) (fun q3 => ?_) (fun q3 => ?_)
  · replace h := h.1 q3
    refine Wq.iinc (x := x3) (ls2 := [some (pO 41 10 0), some (pO 10 8 0), some (pI x2), some (pI (x3 + 1)), some (pI x4), none, none, none, none, none, none]) dL_law_299 rfl (by decide) rfl ?_
    refine Wq.goto (tgt := 33) dL_law_302 (by decide) ?_
    refine Wq.few (ls' := [some (pO 41 10 0), some (pO 10 8 0), some (pI x2), some (pI (x3 + 1)), none, none, none, none, none, none, none]) ⟨rfl, ⟨rfl, ⟨rfl, ⟨rfl, trivial⟩⟩⟩⟩ ?_
    exact h
  · replace h := h.2 q3
    refine Wq.iconst (v := 0) dL_law_297 (by decide) ?_
    exact Wq.iret dL_law_298 (⟨_, rfl, by decide⟩) h
