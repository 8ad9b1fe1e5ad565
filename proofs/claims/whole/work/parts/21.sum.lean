/-! SUMMARIES of small methods (laid by wip/whole/gen/gen.py) -/
set_option maxHeartbeats 4000000 in
set_option maxRecDepth 20000 in
theorem suX4_isFromTo {g : GG} {d : Nat} {m : PM} {x0 : Int32} {x1 : Int32} {x2 : Int32} (h : True) : Wp g d MX4_isFromTo 0 [some (pI x0), some (pI x1), some (pI x2)] [] m (cI fun x m' => (bI ((¬ x0 < x1) ∧ (¬ x2 < x0))) = x ∧ m = m') := by
  refine Wq.few (ls' := [some (pI x0), some (pI x1), some (pI x2)]) ⟨rfl, ⟨rfl, ⟨rfl, trivial⟩⟩⟩ ?_
  refine Wq.iload_n (x := x0) dX4_isFromTo_0 rfl ?_
  refine Wq.iload_n (x := x1) dX4_isFromTo_1 rfl ?_
  refine Wq.icmplt (tgt := 14) dX4_isFromTo_2 (by decide) (fun q1 => ?_) (fun q1 => ?_)
  · refine Wq.iconst (v := 0) dX4_isFromTo_14 (by decide) ?_
    exact Wq.iret dX4_isFromTo_15 (⟨_, rfl, by decide⟩) ⟨rfl, rfl, bI_f (fun z => z.1 q1), rfl⟩
  · refine Wq.iload_n (x := x0) dX4_isFromTo_5 rfl ?_
    refine Wq.iload_n (x := x2) dX4_isFromTo_6 rfl ?_
    refine Wq.icmpgt (tgt := 14) dX4_isFromTo_7 (by decide) (fun q2 => ?_) (fun q2 => ?_)
    · refine Wq.iconst (v := 0) dX4_isFromTo_14 (by decide) ?_
      exact Wq.iret dX4_isFromTo_15 (⟨_, rfl, by decide⟩) ⟨rfl, rfl, bI_f (fun z => (fun z => z q2) z.2), rfl⟩
    · refine Wq.iconst (v := 1) dX4_isFromTo_10 (by decide) ?_
      refine Wq.goto (tgt := 15) dX4_isFromTo_11 (by decide) ?_
      exact Wq.iret dX4_isFromTo_15 (⟨_, rfl, by decide⟩) ⟨rfl, rfl, bI_t ⟨q1, q2⟩, rfl⟩
set_option maxHeartbeats 4000000 in
set_option maxRecDepth 20000 in
theorem suX4_cellAt {g : GG} {d : Nat} {m : PM} {x0 : Int32} {x1 : Int32} {x2 : Int32} (h : True) : Wp g d MX4_cellAt 0 [some (pI x0), some (pI x1), some (pI x2)] [] m (cI fun x m' => (((x1 * 16) + (x2 * 4)) + x0) = x ∧ m = m') := by
  refine Wq.few (ls' := [some (pI x0), some (pI x1), some (pI x2)]) ⟨rfl, ⟨rfl, ⟨rfl, trivial⟩⟩⟩ ?_
  refine Wq.iload_n (x := x1) dX4_cellAt_0 rfl ?_
  refine Wq.bipush (v := 16) dX4_cellAt_1 (by decide) ?_
  refine Wq.imul dX4_cellAt_3 ?_
  refine Wq.iload_n (x := x2) dX4_cellAt_4 rfl ?_
  refine Wq.iconst (v := 4) dX4_cellAt_5 (by decide) ?_
  refine Wq.imul dX4_cellAt_6 ?_
  refine Wq.iadd dX4_cellAt_7 ?_
  refine Wq.iload_n (x := x0) dX4_cellAt_8 rfl ?_
  refine Wq.iadd dX4_cellAt_9 ?_
  exact Wq.iret dX4_cellAt_10 (⟨_, rfl, rfl⟩) ⟨rfl, rfl, rfl, rfl⟩
set_option maxHeartbeats 4000000 in
set_option maxRecDepth 20000 in
theorem suX4_daysTo {g : GG} {d : Nat} {m : PM} {x0 : Int32} (h : True) : Wp g d MX4_daysTo 0 [some (pI x0)] [] m (cI fun x m' => (x0 / 16) = x ∧ m = m') := by
  refine Wq.few (ls' := [some (pI x0)]) ⟨rfl, trivial⟩ ?_
  refine Wq.iload_n (x := x0) dX4_daysTo_0 rfl ?_
  refine Wq.bipush (v := 16) dX4_daysTo_1 (by decide) ?_
  refine Wq.idiv dX4_daysTo_3 (by decide) ?_
  exact Wq.iret dX4_daysTo_4 (⟨_, rfl, rfl⟩) ⟨rfl, rfl, rfl, rfl⟩
set_option maxHeartbeats 4000000 in
set_option maxRecDepth 20000 in
theorem suX4_examinerAt {g : GG} {d : Nat} {m : PM} {x0 : Int32} (h : True) : Wp g d MX4_examinerAt 0 [some (pI x0)] [] m (cI fun x m' => (irm x0 4) = x ∧ m = m') := by
  refine Wq.few (ls' := [some (pI x0)]) ⟨rfl, trivial⟩ ?_
  refine Wq.iload_n (x := x0) dX4_examinerAt_0 rfl ?_
  refine Wq.iconst (v := 4) dX4_examinerAt_1 (by decide) ?_
  refine Wq.irem dX4_examinerAt_2 (by decide) ?_
  exact Wq.iret dX4_examinerAt_3 (⟨_, rfl, rfl⟩) ⟨rfl, rfl, rfl, rfl⟩
set_option maxHeartbeats 4000000 in
set_option maxRecDepth 20000 in
theorem suX4_hashWith {g : GG} {d : Nat} {m : PM} {x0 : Int64} {x1 : Int64} (h : True) : Wp g d MX4_hashWith 0 [some (pL x0), none, some (pL x1), none] [] m (cL fun x m' => ((31 * x0) + x1) = x ∧ m = m') := by
  refine Wq.few (ls' := [some (pL x0), none, some (pL x1), none]) ⟨rfl, ⟨rfl, trivial⟩⟩ ?_
  refine Wq.ldc2 dX4_hashWith_0 lc_X4_275 ?_
  refine Wq.lload_n (x := x0) dX4_hashWith_3 rfl ?_
  refine Wq.lmul dX4_hashWith_4 ?_
  refine Wq.lload_n (x := x1) dX4_hashWith_5 rfl ?_
  refine Wq.ladd dX4_hashWith_6 ?_
  exact Wq.lret dX4_hashWith_7 rfl ⟨rfl, rfl, rfl, rfl⟩
set_option maxHeartbeats 4000000 in
set_option maxRecDepth 20000 in
theorem suX5_thrown {g : GG} {d : Nat} {m : PM}  (h : True) : Wp g d MX5_thrown 0 [some (pO 20 9 0)] [] m (cI fun x m' => (m.1 9 20 0 0) = x ∧ m = m') := by
  refine Wq.few (ls' := [some (pO 20 9 0)]) ⟨rfl, trivial⟩ ?_
  refine Wq.aload_n (t := 20) (r := 9) (j := 0) dX5_thrown_0 rfl ?_
  refine Wq.getf (v := pI (m.1 9 20 0 0)) dX5_thrown_1 fl_X5_41 ⟨rfl, rfl, by decide⟩ rfl ?_
  exact Wq.iret dX5_thrown_4 (⟨_, rfl, rfl⟩) ⟨rfl, rfl, rfl, rfl⟩
set_option maxHeartbeats 4000000 in
set_option maxRecDepth 20000 in
theorem suX5_in {g : GG} {d : Nat} {m : PM} {x0 : Int32} {x1 : Int32} {x2 : Int32} (h : True) : Wp g d MX5_in 0 [some (pI x0), some (pI x1), some (pI x2)] [] m (cI fun x m' => (bI ((¬ x0 < x1) ∧ (¬ x2 < x0))) = x ∧ m = m') := by
  refine Wq.few (ls' := [some (pI x0), some (pI x1), some (pI x2)]) ⟨rfl, ⟨rfl, ⟨rfl, trivial⟩⟩⟩ ?_
  refine Wq.iload_n (x := x0) dX5_in_0 rfl ?_
  refine Wq.iload_n (x := x1) dX5_in_1 rfl ?_
  refine Wq.icmplt (tgt := 14) dX5_in_2 (by decide) (fun q1 => ?_) (fun q1 => ?_)
  · refine Wq.iconst (v := 0) dX5_in_14 (by decide) ?_
    exact Wq.iret dX5_in_15 (⟨_, rfl, by decide⟩) ⟨rfl, rfl, bI_f (fun z => z.1 q1), rfl⟩
  · refine Wq.iload_n (x := x0) dX5_in_5 rfl ?_
    refine Wq.iload_n (x := x2) dX5_in_6 rfl ?_
    refine Wq.icmpgt (tgt := 14) dX5_in_7 (by decide) (fun q2 => ?_) (fun q2 => ?_)
    · refine Wq.iconst (v := 0) dX5_in_14 (by decide) ?_
      exact Wq.iret dX5_in_15 (⟨_, rfl, by decide⟩) ⟨rfl, rfl, bI_f (fun z => (fun z => z q2) z.2), rfl⟩
    · refine Wq.iconst (v := 1) dX5_in_10 (by decide) ?_
      refine Wq.goto (tgt := 15) dX5_in_11 (by decide) ?_
      exact Wq.iret dX5_in_15 (⟨_, rfl, by decide⟩) ⟨rfl, rfl, bI_t ⟨q1, q2⟩, rfl⟩
set_option maxHeartbeats 4000000 in
set_option maxRecDepth 20000 in
theorem suX5_at {g : GG} {d : Nat} {m : PM} {x0 : Int32} {x1 : Int32} {x2 : Int32} (h : True) : Wp g d MX5_at 0 [some (pI x0), some (pI x1), some (pI x2)] [] m (cI fun x m' => (((9 + (40 * x0)) + (4 * x1)) + x2) = x ∧ m = m') := by
  refine Wq.few (ls' := [some (pI x0), some (pI x1), some (pI x2)]) ⟨rfl, ⟨rfl, ⟨rfl, trivial⟩⟩⟩ ?_
  refine Wq.bipush (v := 9) dX5_at_0 (by decide) ?_
  refine Wq.bipush (v := 40) dX5_at_2 (by decide) ?_
  refine Wq.iload_n (x := x0) dX5_at_4 rfl ?_
  refine Wq.imul dX5_at_5 ?_
  refine Wq.iadd dX5_at_6 ?_
  refine Wq.iconst (v := 4) dX5_at_7 (by decide) ?_
  refine Wq.iload_n (x := x1) dX5_at_8 rfl ?_
  refine Wq.imul dX5_at_9 ?_
  refine Wq.iadd dX5_at_10 ?_
  refine Wq.iload_n (x := x2) dX5_at_11 rfl ?_
  refine Wq.iadd dX5_at_12 ?_
  exact Wq.iret dX5_at_13 (⟨_, rfl, rfl⟩) ⟨rfl, rfl, rfl, rfl⟩
set_option maxHeartbeats 4000000 in
set_option maxRecDepth 20000 in
theorem suX5_of {g : GG} {d : Nat} {m : PM} {x0 : Int32} {x1 : Int32} (h : True) : Wp g d MX5_of 0 [some (pI x0), some (pI x1)] [] m (cI fun x m' => ((197 + (12 * x0)) + x1) = x ∧ m = m') := by
  refine Wq.few (ls' := [some (pI x0), some (pI x1)]) ⟨rfl, ⟨rfl, trivial⟩⟩ ?_
  refine Wq.sipush (v := 197) dX5_of_0 (by decide) ?_
  refine Wq.bipush (v := 12) dX5_of_3 (by decide) ?_
  refine Wq.iload_n (x := x0) dX5_of_5 rfl ?_
  refine Wq.imul dX5_of_6 ?_
  refine Wq.iadd dX5_of_7 ?_
  refine Wq.iload_n (x := x1) dX5_of_8 rfl ?_
  refine Wq.iadd dX5_of_9 ?_
  exact Wq.iret dX5_of_10 (⟨_, rfl, rfl⟩) ⟨rfl, rfl, rfl, rfl⟩
set_option maxHeartbeats 4000000 in
set_option maxRecDepth 20000 in
theorem suX5_ofExaminer {g : GG} {d : Nat} {m : PM} {x0 : Int32} {x1 : Int32} (h : True) : Wp g d MX5_ofExaminer 0 [some (pI x0), some (pI x1)] [] m (cI fun x m' => ((169 + (7 * x0)) + x1) = x ∧ m = m') := by
  refine Wq.few (ls' := [some (pI x0), some (pI x1)]) ⟨rfl, ⟨rfl, trivial⟩⟩ ?_
  refine Wq.sipush (v := 169) dX5_ofExaminer_0 (by decide) ?_
  refine Wq.bipush (v := 7) dX5_ofExaminer_3 (by decide) ?_
  refine Wq.iload_n (x := x0) dX5_ofExaminer_5 rfl ?_
  refine Wq.imul dX5_ofExaminer_6 ?_
  refine Wq.iadd dX5_ofExaminer_7 ?_
  refine Wq.iload_n (x := x1) dX5_ofExaminer_8 rfl ?_
  refine Wq.iadd dX5_ofExaminer_9 ?_
  exact Wq.iret dX5_ofExaminer_10 (⟨_, rfl, rfl⟩) ⟨rfl, rfl, rfl, rfl⟩
set_option maxHeartbeats 4000000 in
set_option maxRecDepth 20000 in
theorem suX5_dayOf {g : GG} {d : Nat} {m : PM} {x0 : Int32} (h : True) : Wp g d MX5_dayOf 0 [some (pI x0)] [] m (cI fun x m' => (x0 / 16) = x ∧ m = m') := by
  refine Wq.few (ls' := [some (pI x0)]) ⟨rfl, trivial⟩ ?_
  refine Wq.iload_n (x := x0) dX5_dayOf_0 rfl ?_
  refine Wq.bipush (v := 16) dX5_dayOf_1 (by decide) ?_
  refine Wq.idiv dX5_dayOf_3 (by decide) ?_
  exact Wq.iret dX5_dayOf_4 (⟨_, rfl, rfl⟩) ⟨rfl, rfl, rfl, rfl⟩
set_option maxHeartbeats 4000000 in
set_option maxRecDepth 20000 in
theorem suX5_slotOf {g : GG} {d : Nat} {m : PM} {x0 : Int32} (h : True) : Wp g d MX5_slotOf 0 [some (pI x0)] [] m (cI fun x m' => (irm (x0 / 4) 4) = x ∧ m = m') := by
  refine Wq.few (ls' := [some (pI x0)]) ⟨rfl, trivial⟩ ?_
  refine Wq.iload_n (x := x0) dX5_slotOf_0 rfl ?_
  refine Wq.iconst (v := 4) dX5_slotOf_1 (by decide) ?_
  refine Wq.idiv dX5_slotOf_2 (by decide) ?_
  refine Wq.iconst (v := 4) dX5_slotOf_3 (by decide) ?_
  refine Wq.irem dX5_slotOf_4 (by decide) ?_
  exact Wq.iret dX5_slotOf_5 (⟨_, rfl, rfl⟩) ⟨rfl, rfl, rfl, rfl⟩
set_option maxHeartbeats 4000000 in
set_option maxRecDepth 20000 in
theorem suX5_examinerOf {g : GG} {d : Nat} {m : PM} {x0 : Int32} (h : True) : Wp g d MX5_examinerOf 0 [some (pI x0)] [] m (cI fun x m' => (irm x0 4) = x ∧ m = m') := by
  refine Wq.few (ls' := [some (pI x0)]) ⟨rfl, trivial⟩ ?_
  refine Wq.iload_n (x := x0) dX5_examinerOf_0 rfl ?_
  refine Wq.iconst (v := 4) dX5_examinerOf_1 (by decide) ?_
  refine Wq.irem dX5_examinerOf_2 (by decide) ?_
  exact Wq.iret dX5_examinerOf_3 (⟨_, rfl, rfl⟩) ⟨rfl, rfl, rfl, rfl⟩
set_option maxHeartbeats 4000000 in
set_option maxRecDepth 20000 in
theorem suX5_nextFault {g : GG} {d : Nat} {m : PM}  (h : True) : Wp g d MX5_nextFault 0 [some (pO 20 9 0)] [] m (cI fun x m' => ((if ¬ (m.1 9 21 0 (ix 0)) = 9999 then 0 else 1) : Int32) = x ∧ m = m') := by
  refine Wq.few (ls' := [some (pO 20 9 0)]) ⟨rfl, trivial⟩ ?_
  refine Wq.aload_n (t := 20) (r := 9) (j := 0) dX5_nextFault_0 rfl ?_
  refine Wq.getf (v := pO 21 9 0) dX5_nextFault_1 fl_X5_7 ⟨rfl, rfl, by decide⟩ rfl ?_
  refine Wq.iconst (v := 0) dX5_nextFault_4 (by decide) ?_
  refine Wq.iald dX5_nextFault_5 rfl (vp_dec rfl) ?_
  refine Wq.sipush (v := 9999) dX5_nextFault_6 (by decide) ?_
  refine Wq.icmpne (tgt := 16) dX5_nextFault_9 (by decide) (fun q1 => ?_) (fun q1 => ?_)
  · refine Wq.iconst (v := 0) dX5_nextFault_16 (by decide) ?_
    exact Wq.iret dX5_nextFault_17 (⟨_, rfl, rfl⟩) ⟨rfl, rfl, (by rw [if_pos q1]), rfl⟩
  · refine Wq.iconst (v := 1) dX5_nextFault_12 (by decide) ?_
    refine Wq.goto (tgt := 17) dX5_nextFault_13 (by decide) ?_
    exact Wq.iret dX5_nextFault_17 (⟨_, rfl, rfl⟩) ⟨rfl, rfl, (by rw [if_neg (fun z => z q1)]), rfl⟩
set_option maxHeartbeats 4000000 in
set_option maxRecDepth 20000 in
theorem suX1_hasPupil {g : GG} {d : Nat} {m : PM} {r : Nat} {x1 : Int32} (h : True) : Wp g d MX1_hasPupil 0 [some (pO 0 r 0), some (pI x1)] [] m (cI fun x m' => (bI ((¬ x1 < 0) ∧ (¬ (m.1 r 0 0 2) ≤ x1))) = x ∧ m = m') := by
  refine Wq.few (ls' := [some (pO 0 r 0), some (pI x1)]) ⟨rfl, ⟨rfl, trivial⟩⟩ ?_
  refine Wq.iload_n (x := x1) dX1_hasPupil_0 rfl ?_
  refine Wq.iflt (tgt := 16) dX1_hasPupil_1 (by decide) (fun q1 => ?_) (fun q1 => ?_)
  · refine Wq.iconst (v := 0) dX1_hasPupil_16 (by decide) ?_
    exact Wq.iret dX1_hasPupil_17 (⟨_, rfl, by decide⟩) ⟨rfl, rfl, bI_f (fun z => z.1 q1), rfl⟩
  · refine Wq.iload_n (x := x1) dX1_hasPupil_4 rfl ?_
    refine Wq.aload_n (t := 0) (r := r) (j := 0) dX1_hasPupil_5 rfl ?_
    refine Wq.getf (v := pI (m.1 r 0 0 2)) dX1_hasPupil_6 fl_X1_18 ⟨rfl, rfl, by decide⟩ rfl ?_
    refine Wq.icmpge (tgt := 16) dX1_hasPupil_9 (by decide) (fun q2 => ?_) (fun q2 => ?_)
    · refine Wq.iconst (v := 0) dX1_hasPupil_16 (by decide) ?_
      exact Wq.iret dX1_hasPupil_17 (⟨_, rfl, by decide⟩) ⟨rfl, rfl, bI_f (fun z => (fun z => z q2) z.2), rfl⟩
    · refine Wq.iconst (v := 1) dX1_hasPupil_12 (by decide) ?_
      refine Wq.goto (tgt := 17) dX1_hasPupil_13 (by decide) ?_
      exact Wq.iret dX1_hasPupil_17 (⟨_, rfl, by decide⟩) ⟨rfl, rfl, bI_t ⟨q1, q2⟩, rfl⟩
set_option maxHeartbeats 4000000 in
set_option maxRecDepth 20000 in
theorem suX1_hasExaminer {g : GG} {d : Nat} {m : PM} {r : Nat} {x1 : Int32} (h : True) : Wp g d MX1_hasExaminer 0 [some (pO 0 r 0), some (pI x1)] [] m (cI fun x m' => (bI ((¬ x1 < 0) ∧ (¬ (m.1 r 0 0 1) ≤ x1))) = x ∧ m = m') := by
  refine Wq.few (ls' := [some (pO 0 r 0), some (pI x1)]) ⟨rfl, ⟨rfl, trivial⟩⟩ ?_
  refine Wq.iload_n (x := x1) dX1_hasExaminer_0 rfl ?_
  refine Wq.iflt (tgt := 16) dX1_hasExaminer_1 (by decide) (fun q1 => ?_) (fun q1 => ?_)
  · refine Wq.iconst (v := 0) dX1_hasExaminer_16 (by decide) ?_
    exact Wq.iret dX1_hasExaminer_17 (⟨_, rfl, by decide⟩) ⟨rfl, rfl, bI_f (fun z => z.1 q1), rfl⟩
  · refine Wq.iload_n (x := x1) dX1_hasExaminer_4 rfl ?_
    refine Wq.aload_n (t := 0) (r := r) (j := 0) dX1_hasExaminer_5 rfl ?_
    refine Wq.getf (v := pI (m.1 r 0 0 1)) dX1_hasExaminer_6 fl_X1_15 ⟨rfl, rfl, by decide⟩ rfl ?_
    refine Wq.icmpge (tgt := 16) dX1_hasExaminer_9 (by decide) (fun q2 => ?_) (fun q2 => ?_)
    · refine Wq.iconst (v := 0) dX1_hasExaminer_16 (by decide) ?_
      exact Wq.iret dX1_hasExaminer_17 (⟨_, rfl, by decide⟩) ⟨rfl, rfl, bI_f (fun z => (fun z => z q2) z.2), rfl⟩
    · refine Wq.iconst (v := 1) dX1_hasExaminer_12 (by decide) ?_
      refine Wq.goto (tgt := 17) dX1_hasExaminer_13 (by decide) ?_
      exact Wq.iret dX1_hasExaminer_17 (⟨_, rfl, by decide⟩) ⟨rfl, rfl, bI_t ⟨q1, q2⟩, rfl⟩
set_option maxHeartbeats 4000000 in
set_option maxRecDepth 20000 in
theorem suX1_mayAsk {g : GG} {d : Nat} {m : PM} {r : Nat} {x1 : Int32} (h : (vp_in x1 12 ∧ True)) : Wp g d MX1_mayAsk 0 [some (pO 0 r 0), some (pI x1)] [] m (cI fun x m' => (bI ((m.1 r 4 (ix x1) 0) = 0)) = x ∧ m = m') := by
  refine Wq.few (ls' := [some (pO 0 r 0), some (pI x1)]) ⟨rfl, ⟨rfl, trivial⟩⟩ ?_
  refine Wq.aload_n (t := 0) (r := r) (j := 0) dX1_mayAsk_0 rfl ?_
  refine Wq.getf (v := pO 7 r 0) dX1_mayAsk_1 fl_X1_39 ⟨rfl, rfl, by decide⟩ rfl ?_
  refine Wq.iload_n (x := x1) dX1_mayAsk_4 rfl ?_
  refine Wq.aaldP dX1_mayAsk_5 h.1 ?_
  replace h := h.2
  refine Wq.getf (v := pI (m.1 r 4 (ix x1) 0)) dX1_mayAsk_6 fl_X1_83 ⟨rfl, rfl, by decide⟩ rfl ?_
  refine Wq.ifne (tgt := 16) dX1_mayAsk_9 (by decide) (fun q1 => ?_) (fun q1 => ?_)
  · refine Wq.iconst (v := 0) dX1_mayAsk_16 (by decide) ?_
    exact Wq.iret dX1_mayAsk_17 (⟨_, rfl, by decide⟩) ⟨rfl, rfl, bI_f (fun z => q1 z), rfl⟩
  · refine Wq.iconst (v := 1) dX1_mayAsk_12 (by decide) ?_
    refine Wq.goto (tgt := 17) dX1_mayAsk_13 (by decide) ?_
    exact Wq.iret dX1_mayAsk_17 (⟨_, rfl, by decide⟩) ⟨rfl, rfl, bI_t q1, rfl⟩
set_option maxHeartbeats 4000000 in
set_option maxRecDepth 20000 in
theorem suX1_mayQuit {g : GG} {d : Nat} {m : PM} {r : Nat} {x1 : Int32} (h : (vp_in x1 12 ∧ True)) : Wp g d MX1_mayQuit 0 [some (pO 0 r 0), some (pI x1)] [] m (cI fun x m' => (bI (((m.1 r 4 (ix x1) 0) = 1) ∨ ((m.1 r 4 (ix x1) 0) = 2))) = x ∧ m = m') := by
  refine Wq.few (ls' := [some (pO 0 r 0), some (pI x1), none]) ⟨rfl, ⟨rfl, trivial⟩⟩ ?_
  refine Wq.aload_n (t := 0) (r := r) (j := 0) dX1_mayQuit_0 rfl ?_
  refine Wq.getf (v := pO 7 r 0) dX1_mayQuit_1 fl_X1_39 ⟨rfl, rfl, by decide⟩ rfl ?_
  refine Wq.iload_n (x := x1) dX1_mayQuit_4 rfl ?_
  refine Wq.aaldP dX1_mayQuit_5 h.1 ?_
  replace h := h.2
  refine Wq.getf (v := pI (m.1 r 4 (ix x1) 0)) dX1_mayQuit_6 fl_X1_83 ⟨rfl, rfl, by decide⟩ rfl ?_
  refine Wq.istore_n (ls2 := [some (pO 0 r 0), some (pI x1), some (pI (m.1 r 4 (ix x1) 0))]) dX1_mayQuit_9 (by decide) rfl ?_
  refine Wq.iload_n (x := (m.1 r 4 (ix x1) 0)) dX1_mayQuit_10 rfl ?_
  refine Wq.iconst (v := 1) dX1_mayQuit_11 (by decide) ?_
  refine Wq.icmpeq (tgt := 20) dX1_mayQuit_12 (by decide) (fun q1 => ?_) (fun q1 => ?_)
  · refine Wq.iconst (v := 1) dX1_mayQuit_20 (by decide) ?_
    refine Wq.goto (tgt := 25) dX1_mayQuit_21 (by decide) ?_
    exact Wq.iret dX1_mayQuit_25 (⟨_, rfl, by decide⟩) ⟨rfl, rfl, bI_t (Or.inl q1), rfl⟩
  · refine Wq.iload_n (x := (m.1 r 4 (ix x1) 0)) dX1_mayQuit_15 rfl ?_
    refine Wq.iconst (v := 2) dX1_mayQuit_16 (by decide) ?_
    refine Wq.icmpne (tgt := 24) dX1_mayQuit_17 (by decide) (fun q2 => ?_) (fun q2 => ?_)
    · refine Wq.iconst (v := 0) dX1_mayQuit_24 (by decide) ?_
      exact Wq.iret dX1_mayQuit_25 (⟨_, rfl, by decide⟩) ⟨rfl, rfl, bI_f (fun z => z.elim (fun z => q1 z) (fun z => q2 z)), rfl⟩
    · refine Wq.iconst (v := 1) dX1_mayQuit_20 (by decide) ?_
      refine Wq.goto (tgt := 25) dX1_mayQuit_21 (by decide) ?_
      exact Wq.iret dX1_mayQuit_25 (⟨_, rfl, by decide⟩) ⟨rfl, rfl, bI_t (Or.inr q2), rfl⟩
set_option maxHeartbeats 4000000 in
set_option maxRecDepth 20000 in
theorem suX1_mayGoOn {g : GG} {d : Nat} {m : PM} {r : Nat} (h : True) : Wp g d MX1_mayGoOn 0 [some (pO 0 r 0)] [] m (cI fun x m' => (bI (¬ 9999 ≤ (m.1 r 0 0 0))) = x ∧ m = m') := by
  refine Wq.few (ls' := [some (pO 0 r 0)]) ⟨rfl, trivial⟩ ?_
  refine Wq.aload_n (t := 0) (r := r) (j := 0) dX1_mayGoOn_0 rfl ?_
  refine Wq.getf (v := pI (m.1 r 0 0 0)) dX1_mayGoOn_1 fl_X1_9 ⟨rfl, rfl, by decide⟩ rfl ?_
  refine Wq.sipush (v := 9999) dX1_mayGoOn_4 (by decide) ?_
  refine Wq.icmpge (tgt := 14) dX1_mayGoOn_7 (by decide) (fun q1 => ?_) (fun q1 => ?_)
  · refine Wq.iconst (v := 0) dX1_mayGoOn_14 (by decide) ?_
    exact Wq.iret dX1_mayGoOn_15 (⟨_, rfl, by decide⟩) ⟨rfl, rfl, bI_f (fun z => z q1), rfl⟩
  · refine Wq.iconst (v := 1) dX1_mayGoOn_10 (by decide) ?_
    refine Wq.goto (tgt := 15) dX1_mayGoOn_11 (by decide) ?_
    exact Wq.iret dX1_mayGoOn_15 (⟨_, rfl, by decide⟩) ⟨rfl, rfl, bI_t q1, rfl⟩
set_option maxHeartbeats 4000000 in
set_option maxRecDepth 20000 in
theorem suX1_couldCome {g : GG} {d : Nat} {m : PM} {r : Nat} {x1 : Int32} {x2 : Int32} (h : (vp_in x1 12 ∧ True)) : Wp g d MX1_couldCome 0 [some (pO 0 r 0), some (pI x1), some (pI x2)] [] m (cI fun x m' => (bI (¬ ((m.1 r 0 0 0) + x2) < (m.1 r 4 (ix x1) 2))) = x ∧ m = m') := by
  refine Wq.few (ls' := [some (pO 0 r 0), some (pI x1), some (pI x2)]) ⟨rfl, ⟨rfl, ⟨rfl, trivial⟩⟩⟩ ?_
  refine Wq.aload_n (t := 0) (r := r) (j := 0) dX1_couldCome_0 rfl ?_
  refine Wq.getf (v := pI (m.1 r 0 0 0)) dX1_couldCome_1 fl_X1_9 ⟨rfl, rfl, by decide⟩ rfl ?_
  refine Wq.iload_n (x := x2) dX1_couldCome_4 rfl ?_
  refine Wq.iadd dX1_couldCome_5 ?_
  refine Wq.aload_n (t := 0) (r := r) (j := 0) dX1_couldCome_6 rfl ?_
  refine Wq.getf (v := pO 7 r 0) dX1_couldCome_7 fl_X1_39 ⟨rfl, rfl, by decide⟩ rfl ?_
  refine Wq.iload_n (x := x1) dX1_couldCome_10 rfl ?_
  refine Wq.aaldP dX1_couldCome_11 h.1 ?_
  replace h := h.2
  refine Wq.getf (v := pI (m.1 r 4 (ix x1) 2)) dX1_couldCome_12 fl_X1_80 ⟨rfl, rfl, by decide⟩ rfl ?_
  refine Wq.icmplt (tgt := 22) dX1_couldCome_15 (by decide) (fun q1 => ?_) (fun q1 => ?_)
  · refine Wq.iconst (v := 0) dX1_couldCome_22 (by decide) ?_
    exact Wq.iret dX1_couldCome_23 (⟨_, rfl, by decide⟩) ⟨rfl, rfl, bI_f (fun z => z q1), rfl⟩
  · refine Wq.iconst (v := 1) dX1_couldCome_18 (by decide) ?_
    refine Wq.goto (tgt := 23) dX1_couldCome_19 (by decide) ?_
    exact Wq.iret dX1_couldCome_23 (⟨_, rfl, by decide⟩) ⟨rfl, rfl, bI_t q1, rfl⟩
set_option maxHeartbeats 4000000 in
set_option maxRecDepth 20000 in
theorem suX1_mayMeet {g : GG} {d : Nat} {m : PM} {r : Nat} {x1 : Int32} {x2 : Int32} (h : (¬ (m.1 r 1 0 (ix 1)) = 0 → (vp_in x1 12 ∧ True))) : Wp g d MX1_mayMeet 0 [some (pO 0 r 0), some (pI x1), some (pI x2)] [] m (cI fun x m' => (bI (((m.1 r 1 0 (ix 1)) = 0) ∨ (¬ (m.1 r 4 (ix x1) 4) = x2))) = x ∧ m = m') := by
  refine Wq.few (ls' := [some (pO 0 r 0), some (pI x1), some (pI x2)]) ⟨rfl, ⟨rfl, ⟨rfl, trivial⟩⟩⟩ ?_
  refine Wq.aload_n (t := 0) (r := r) (j := 0) dX1_mayMeet_0 rfl ?_
  refine Wq.getf (v := pO 1 r 0) dX1_mayMeet_1 fl_X1_31 ⟨rfl, rfl, by decide⟩ rfl ?_
  refine Wq.iconst (v := 1) dX1_mayMeet_4 (by decide) ?_
  refine Wq.iald dX1_mayMeet_5 rfl (vp_dec rfl) ?_
  refine Wq.ifeq (tgt := 22) dX1_mayMeet_6 (by decide) (fun q1 => ?_) (fun q1 => ?_)
  · refine Wq.iconst (v := 1) dX1_mayMeet_22 (by decide) ?_
    refine Wq.goto (tgt := 27) dX1_mayMeet_23 (by decide) ?_
    exact Wq.iret dX1_mayMeet_27 (⟨_, rfl, by decide⟩) ⟨rfl, rfl, bI_t (Or.inl q1), rfl⟩
  · replace h := h q1
    refine Wq.aload_n (t := 0) (r := r) (j := 0) dX1_mayMeet_9 rfl ?_
    refine Wq.getf (v := pO 7 r 0) dX1_mayMeet_10 fl_X1_39 ⟨rfl, rfl, by decide⟩ rfl ?_
    refine Wq.iload_n (x := x1) dX1_mayMeet_13 rfl ?_
    refine Wq.aaldP dX1_mayMeet_14 h.1 ?_
    replace h := h.2
    refine Wq.getf (v := pI (m.1 r 4 (ix x1) 4)) dX1_mayMeet_15 fl_X1_132 ⟨rfl, rfl, by decide⟩ rfl ?_
    refine Wq.iload_n (x := x2) dX1_mayMeet_18 rfl ?_
    refine Wq.icmpeq (tgt := 26) dX1_mayMeet_19 (by decide) (fun q2 => ?_) (fun q2 => ?_)
    · refine Wq.iconst (v := 0) dX1_mayMeet_26 (by decide) ?_
      exact Wq.iret dX1_mayMeet_27 (⟨_, rfl, by decide⟩) ⟨rfl, rfl, bI_f (fun z => z.elim (fun z => q1 z) (fun z => z q2)), rfl⟩
    · refine Wq.iconst (v := 1) dX1_mayMeet_22 (by decide) ?_
      refine Wq.goto (tgt := 27) dX1_mayMeet_23 (by decide) ?_
      exact Wq.iret dX1_mayMeet_27 (⟨_, rfl, by decide⟩) ⟨rfl, rfl, bI_t (Or.inr q2), rfl⟩
set_option maxHeartbeats 4000000 in
set_option maxRecDepth 20000 in
theorem suX1_isInGroup {g : GG} {d : Nat} {m : PM} {x0 : Int32} {x1 : Int32} (h : True) : Wp g d MX1_isInGroup 0 [some (pI x0), some (pI x1)] [] m (cI fun x m' => (bI (((x0 >>> (x1 &&& 31)) &&& 1) = 1)) = x ∧ m = m') := by
  refine Wq.few (ls' := [some (pI x0), some (pI x1)]) ⟨rfl, ⟨rfl, trivial⟩⟩ ?_
  refine Wq.iload_n (x := x0) dX1_isInGroup_0 rfl ?_
  refine Wq.iload_n (x := x1) dX1_isInGroup_1 rfl ?_
  refine Wq.ishr dX1_isInGroup_2 ?_
  refine Wq.iconst (v := 1) dX1_isInGroup_3 (by decide) ?_
  refine Wq.iand dX1_isInGroup_4 ?_
  refine Wq.iconst (v := 1) dX1_isInGroup_5 (by decide) ?_
  refine Wq.icmpne (tgt := 13) dX1_isInGroup_6 (by decide) (fun q1 => ?_) (fun q1 => ?_)
  · refine Wq.iconst (v := 0) dX1_isInGroup_13 (by decide) ?_
    exact Wq.iret dX1_isInGroup_14 (⟨_, rfl, by decide⟩) ⟨rfl, rfl, bI_f (fun z => q1 z), rfl⟩
  · refine Wq.iconst (v := 1) dX1_isInGroup_9 (by decide) ?_
    refine Wq.goto (tgt := 14) dX1_isInGroup_10 (by decide) ?_
    exact Wq.iret dX1_isInGroup_14 (⟨_, rfl, by decide⟩) ⟨rfl, rfl, bI_t q1, rfl⟩
set_option maxHeartbeats 4000000 in
set_option maxRecDepth 20000 in
theorem suX2_hasRoom {g : GG} {d : Nat} {m : PM}  (h : True) : Wp g d MX2_hasRoom 0 [some (pO 12 8 0)] [] m (cI fun x m' => (bI (¬ 60 ≤ (m.1 8 12 0 1))) = x ∧ m = m') := by
  refine Wq.few (ls' := [some (pO 12 8 0)]) ⟨rfl, trivial⟩ ?_
  refine Wq.aload_n (t := 12) (r := 8) (j := 0) dX2_hasRoom_0 rfl ?_
  refine Wq.getf (v := pI (m.1 8 12 0 1)) dX2_hasRoom_1 fl_X2_15 ⟨rfl, rfl, by decide⟩ rfl ?_
  refine Wq.aload_n (t := 12) (r := 8) (j := 0) dX2_hasRoom_4 rfl ?_
  refine Wq.getf (v := pO 13 8 0) dX2_hasRoom_5 fl_X2_9 ⟨rfl, rfl, by decide⟩ rfl ?_
  refine Wq.alen (v := 60) dX2_hasRoom_8 rfl (by decide) rfl ?_
  refine Wq.icmpge (tgt := 16) dX2_hasRoom_9 (by decide) (fun q1 => ?_) (fun q1 => ?_)
  · refine Wq.iconst (v := 0) dX2_hasRoom_16 (by decide) ?_
    exact Wq.iret dX2_hasRoom_17 (⟨_, rfl, by decide⟩) ⟨rfl, rfl, bI_f (fun z => z q1), rfl⟩
  · refine Wq.iconst (v := 1) dX2_hasRoom_12 (by decide) ?_
    refine Wq.goto (tgt := 17) dX2_hasRoom_13 (by decide) ?_
    exact Wq.iret dX2_hasRoom_17 (⟨_, rfl, by decide⟩) ⟨rfl, rfl, bI_t q1, rfl⟩
set_option maxHeartbeats 4000000 in
set_option maxRecDepth 20000 in
theorem suX2_wordOf {g : GG} {d : Nat} {m : PM} {x0 : Int32} (h : True) : Wp g d MX2_wordOf 0 [some (pI x0)] [] m (cO fun t r j m' => 44 = t ∧ 10 = r ∧ ((if x0 = 0 then 0 else (if x0 = 1 then 1 else (if x0 = 2 then 2 else (if x0 = 3 then 3 else (if x0 = 4 then 4 else 5))))) : Nat) = j ∧ m = m') := by
  refine Wq.few (ls' := [some (pI x0)]) ⟨rfl, trivial⟩ ?_
  refine Wq.iload_n (x := x0) dX2_wordOf_0 rfl ?_
  by_cases q1 : x0 = 0
  · refine Wq.tableIn (tgt := 36) dX2_wordOf_1 (by rw [q1]; decide) (by rw [q1]; decide) (by rw [q1]; rfl) (by decide) ?_
    refine Wq.ldcS 0 rfl dX2_wordOf_36 (by decide) rfl ?_
    exact Wq.aret dX2_wordOf_38 (⟨_, rfl⟩) ⟨rfl, rfl, rfl, rfl, (by rw [if_pos q1]), rfl⟩
  · by_cases q2 : x0 = 1
    · refine Wq.tableIn (tgt := 39) dX2_wordOf_1 (by rw [q2]; decide) (by rw [q2]; decide) (by rw [q2]; rfl) (by decide) ?_
      refine Wq.ldcS 1 rfl dX2_wordOf_39 (by decide) rfl ?_
      exact Wq.aret dX2_wordOf_41 (⟨_, rfl⟩) ⟨rfl, rfl, rfl, rfl, (by rw [if_neg q1, if_pos q2]), rfl⟩
    · by_cases q3 : x0 = 2
      · refine Wq.tableIn (tgt := 42) dX2_wordOf_1 (by rw [q3]; decide) (by rw [q3]; decide) (by rw [q3]; rfl) (by decide) ?_
        refine Wq.ldcS 2 rfl dX2_wordOf_42 (by decide) rfl ?_
        exact Wq.aret dX2_wordOf_44 (⟨_, rfl⟩) ⟨rfl, rfl, rfl, rfl, (by rw [if_neg q1, if_neg q2, if_pos q3]), rfl⟩
      · by_cases q4 : x0 = 3
        · refine Wq.tableIn (tgt := 45) dX2_wordOf_1 (by rw [q4]; decide) (by rw [q4]; decide) (by rw [q4]; rfl) (by decide) ?_
          refine Wq.ldcS 3 rfl dX2_wordOf_45 (by decide) rfl ?_
          exact Wq.aret dX2_wordOf_47 (⟨_, rfl⟩) ⟨rfl, rfl, rfl, rfl, (by rw [if_neg q1, if_neg q2, if_neg q3, if_pos q4]), rfl⟩
        · by_cases q5 : x0 = 4
          · refine Wq.tableIn (tgt := 48) dX2_wordOf_1 (by rw [q5]; decide) (by rw [q5]; decide) (by rw [q5]; rfl) (by decide) ?_
            refine Wq.ldcS 4 rfl dX2_wordOf_48 (by decide) rfl ?_
            exact Wq.aret dX2_wordOf_50 (⟨_, rfl⟩) ⟨rfl, rfl, rfl, rfl, (by rw [if_neg q1, if_neg q2, if_neg q3, if_neg q4, if_pos q5]), rfl⟩
          · refine Wq.tableOut (tgt := 51) dX2_wordOf_1 (sw_out5 q1 q2 q3 q4 q5) (by decide) ?_
            refine Wq.ldcS 5 rfl dX2_wordOf_51 (by decide) rfl ?_
            exact Wq.aret dX2_wordOf_53 (⟨_, rfl⟩) ⟨rfl, rfl, rfl, rfl, (by rw [if_neg q1, if_neg q2, if_neg q3, if_neg q4, if_neg q5]), rfl⟩
set_option maxHeartbeats 4000000 in
set_option maxRecDepth 20000 in
theorem suX2_digitAhead {g : GG} {d : Nat} {m : PM}  (h : (¬ (m.1 8 12 0 1) ≤ (m.1 8 12 0 2) → (vp_in (m.1 8 12 0 2) 60 ∧ (¬ (m.1 8 13 0 (ix (m.1 8 12 0 2))) < 48 → (vp_in (m.1 8 12 0 2) 60 ∧ ((m.1 8 13 0 (ix (m.1 8 12 0 2))) ≤ 57 → (vp_in (m.1 8 12 0 2) 60 ∧ True))))))) : Wp g d MX2_digitAhead 0 [some (pO 12 8 0)] [] m (cI fun x m' => ((if (m.1 8 12 0 1) ≤ (m.1 8 12 0 2) then (-1) else (if (m.1 8 13 0 (ix (m.1 8 12 0 2))) < 48 then (-1) else (if (m.1 8 13 0 (ix (m.1 8 12 0 2))) ≤ 57 then ((m.1 8 13 0 (ix (m.1 8 12 0 2))) - 48) else (-1)))) : Int32) = x ∧ m = m') := by
  refine Wq.few (ls' := [some (pO 12 8 0)]) ⟨rfl, trivial⟩ ?_
  refine Wq.aload_n (t := 12) (r := 8) (j := 0) dX2_digitAhead_0 rfl ?_
  refine Wq.getf (v := pI (m.1 8 12 0 2)) dX2_digitAhead_1 fl_X2_19 ⟨rfl, rfl, by decide⟩ rfl ?_
  refine Wq.aload_n (t := 12) (r := 8) (j := 0) dX2_digitAhead_4 rfl ?_
  refine Wq.getf (v := pI (m.1 8 12 0 1)) dX2_digitAhead_5 fl_X2_15 ⟨rfl, rfl, by decide⟩ rfl ?_
  refine Wq.icmpge (tgt := 39) dX2_digitAhead_8 (by decide) (fun q1 => ?_) (fun q1 => ?_)
  · refine Wq.iconst (v := (-1)) dX2_digitAhead_39 (by decide) ?_
    exact Wq.iret dX2_digitAhead_40 (⟨_, rfl, rfl⟩) ⟨rfl, rfl, (by rw [if_pos q1]), rfl⟩
  · replace h := h q1
    refine Wq.aload_n (t := 12) (r := 8) (j := 0) dX2_digitAhead_11 rfl ?_
    refine Wq.getf (v := pO 13 8 0) dX2_digitAhead_12 fl_X2_9 ⟨rfl, rfl, by decide⟩ rfl ?_
    refine Wq.aload_n (t := 12) (r := 8) (j := 0) dX2_digitAhead_15 rfl ?_
    refine Wq.getf (v := pI (m.1 8 12 0 2)) dX2_digitAhead_16 fl_X2_19 ⟨rfl, rfl, by decide⟩ rfl ?_
    refine Wq.iald dX2_digitAhead_19 rfl h.1 ?_
    replace h := h.2
    refine Wq.bipush (v := 48) dX2_digitAhead_20 (by decide) ?_
    refine Wq.icmplt (tgt := 39) dX2_digitAhead_22 (by decide) (fun q2 => ?_) (fun q2 => ?_)
    · refine Wq.iconst (v := (-1)) dX2_digitAhead_39 (by decide) ?_
      exact Wq.iret dX2_digitAhead_40 (⟨_, rfl, rfl⟩) ⟨rfl, rfl, (by rw [if_neg q1, if_pos q2]), rfl⟩
    · replace h := h q2
      refine Wq.aload_n (t := 12) (r := 8) (j := 0) dX2_digitAhead_25 rfl ?_
      refine Wq.getf (v := pO 13 8 0) dX2_digitAhead_26 fl_X2_9 ⟨rfl, rfl, by decide⟩ rfl ?_
      refine Wq.aload_n (t := 12) (r := 8) (j := 0) dX2_digitAhead_29 rfl ?_
      refine Wq.getf (v := pI (m.1 8 12 0 2)) dX2_digitAhead_30 fl_X2_19 ⟨rfl, rfl, by decide⟩ rfl ?_
      refine Wq.iald dX2_digitAhead_33 rfl h.1 ?_
      replace h := h.2
      refine Wq.bipush (v := 57) dX2_digitAhead_34 (by decide) ?_
      refine Wq.icmple (tgt := 41) dX2_digitAhead_36 (by decide) (fun q3 => ?_) (fun q3 => ?_)
      · replace h := h q3
        refine Wq.aload_n (t := 12) (r := 8) (j := 0) dX2_digitAhead_41 rfl ?_
        refine Wq.getf (v := pO 13 8 0) dX2_digitAhead_42 fl_X2_9 ⟨rfl, rfl, by decide⟩ rfl ?_
        refine Wq.aload_n (t := 12) (r := 8) (j := 0) dX2_digitAhead_45 rfl ?_
        refine Wq.getf (v := pI (m.1 8 12 0 2)) dX2_digitAhead_46 fl_X2_19 ⟨rfl, rfl, by decide⟩ rfl ?_
        refine Wq.iald dX2_digitAhead_49 rfl h.1 ?_
        replace h := h.2
        refine Wq.bipush (v := 48) dX2_digitAhead_50 (by decide) ?_
        refine Wq.isub dX2_digitAhead_52 ?_
        exact Wq.iret dX2_digitAhead_53 (⟨_, rfl, rfl⟩) ⟨rfl, rfl, (by rw [if_neg q1, if_neg q2, if_pos q3]), rfl⟩
      · refine Wq.iconst (v := (-1)) dX2_digitAhead_39 (by decide) ?_
        exact Wq.iret dX2_digitAhead_40 (⟨_, rfl, rfl⟩) ⟨rfl, rfl, (by rw [if_neg q1, if_neg q2, if_neg q3]), rfl⟩
set_option maxHeartbeats 4000000 in
set_option maxRecDepth 20000 in
theorem suX3_comesAheadOf {g : GG} {d : Nat} {m : PM} {r j0 : Nat} {r1 j1 : Nat} (h : True) : Wp g d MX3_comesAheadOf 0 [some (pO 4 r j0), some (pO 4 r1 j1)] [] m (cI fun x m' => (bI (((m.1 r1 4 j1 5) < (m.1 r 4 j0 5)) ∨ (((m.1 r 4 j0 5) = (m.1 r1 4 j1 5)) ∧ (¬ (m.1 r1 4 j1 6) ≤ (m.1 r 4 j0 6))))) = x ∧ m = m') := by
  refine Wq.few (ls' := [some (pO 4 r j0), some (pO 4 r1 j1)]) ⟨rfl, ⟨rfl, trivial⟩⟩ ?_
  refine Wq.aload_n (t := 4) (r := r) (j := j0) dX3_comesAheadOf_0 rfl ?_
  refine Wq.getf (v := pI (m.1 r 4 j0 5)) dX3_comesAheadOf_1 fl_X3_27 ⟨rfl, rfl, by decide⟩ rfl ?_
  refine Wq.aload_n (t := 4) (r := r1) (j := j1) dX3_comesAheadOf_4 rfl ?_
  refine Wq.getf (v := pI (m.1 r1 4 j1 5)) dX3_comesAheadOf_5 fl_X3_27 ⟨rfl, rfl, by decide⟩ rfl ?_
  refine Wq.icmpgt (tgt := 33) dX3_comesAheadOf_8 (by decide) (fun q1 => ?_) (fun q1 => ?_)
  · refine Wq.iconst (v := 1) dX3_comesAheadOf_33 (by decide) ?_
    refine Wq.goto (tgt := 38) dX3_comesAheadOf_34 (by decide) ?_
    exact Wq.iret dX3_comesAheadOf_38 (⟨_, rfl, by decide⟩) ⟨rfl, rfl, bI_t (Or.inl q1), rfl⟩
  · refine Wq.aload_n (t := 4) (r := r) (j := j0) dX3_comesAheadOf_11 rfl ?_
    refine Wq.getf (v := pI (m.1 r 4 j0 5)) dX3_comesAheadOf_12 fl_X3_27 ⟨rfl, rfl, by decide⟩ rfl ?_
    refine Wq.aload_n (t := 4) (r := r1) (j := j1) dX3_comesAheadOf_15 rfl ?_
    refine Wq.getf (v := pI (m.1 r1 4 j1 5)) dX3_comesAheadOf_16 fl_X3_27 ⟨rfl, rfl, by decide⟩ rfl ?_
    refine Wq.icmpne (tgt := 37) dX3_comesAheadOf_19 (by decide) (fun q2 => ?_) (fun q2 => ?_)
    · refine Wq.iconst (v := 0) dX3_comesAheadOf_37 (by decide) ?_
      exact Wq.iret dX3_comesAheadOf_38 (⟨_, rfl, by decide⟩) ⟨rfl, rfl, bI_f (fun z => z.elim (fun z => q1 z) (fun z => q2 z.1)), rfl⟩
    · refine Wq.aload_n (t := 4) (r := r) (j := j0) dX3_comesAheadOf_22 rfl ?_
      refine Wq.getf (v := pI (m.1 r 4 j0 6)) dX3_comesAheadOf_23 fl_X3_30 ⟨rfl, rfl, by decide⟩ rfl ?_
      refine Wq.aload_n (t := 4) (r := r1) (j := j1) dX3_comesAheadOf_26 rfl ?_
      refine Wq.getf (v := pI (m.1 r1 4 j1 6)) dX3_comesAheadOf_27 fl_X3_30 ⟨rfl, rfl, by decide⟩ rfl ?_
      refine Wq.icmpge (tgt := 37) dX3_comesAheadOf_30 (by decide) (fun q3 => ?_) (fun q3 => ?_)
      · refine Wq.iconst (v := 0) dX3_comesAheadOf_37 (by decide) ?_
        exact Wq.iret dX3_comesAheadOf_38 (⟨_, rfl, by decide⟩) ⟨rfl, rfl, bI_f (fun z => z.elim (fun z => q1 z) (fun z => (fun z => z q3) z.2)), rfl⟩
      · refine Wq.iconst (v := 1) dX3_comesAheadOf_33 (by decide) ?_
        refine Wq.goto (tgt := 38) dX3_comesAheadOf_34 (by decide) ?_
        exact Wq.iret dX3_comesAheadOf_38 (⟨_, rfl, by decide⟩) ⟨rfl, rfl, bI_t (Or.inr ⟨q2, q3⟩), rfl⟩
set_option maxHeartbeats 4000000 in
set_option maxRecDepth 20000 in
theorem suJ9_min_7cf53 {g : GG} {d : Nat} {m : PM} {x0 : Int32} {x1 : Int32} (h : True) : Wp g d MJ9_min_7cf53 0 [some (pI x0), some (pI x1)] [] m (cI fun x m' => ((if x1 < x0 then x1 else x0) : Int32) = x ∧ m = m') := by
  refine Wq.few (ls' := [some (pI x0), some (pI x1)]) ⟨rfl, ⟨rfl, trivial⟩⟩ ?_
  refine Wq.iload_n (x := x0) dJ9_min_7cf53_0 rfl ?_
  refine Wq.iload_n (x := x1) dJ9_min_7cf53_1 rfl ?_
  refine Wq.icmpgt (tgt := 9) dJ9_min_7cf53_2 (by decide) (fun q1 => ?_) (fun q1 => ?_)
  · refine Wq.iload_n (x := x1) dJ9_min_7cf53_9 rfl ?_
    exact Wq.iret dJ9_min_7cf53_10 (⟨_, rfl, rfl⟩) ⟨rfl, rfl, (by rw [if_pos q1]), rfl⟩
  · refine Wq.iload_n (x := x0) dJ9_min_7cf53_5 rfl ?_
    refine Wq.goto (tgt := 10) dJ9_min_7cf53_6 (by decide) ?_
    exact Wq.iret dJ9_min_7cf53_10 (⟨_, rfl, rfl⟩) ⟨rfl, rfl, (by rw [if_neg q1]), rfl⟩
set_option maxHeartbeats 4000000 in
set_option maxRecDepth 20000 in
theorem suJ0_coder_7d493 {g : GG} {d : Nat} {m : PM} {j0 : Nat} (h : True) : Wp g d MJ0_coder_7d493 0 [some (pO 44 10 j0)] [] m (cI fun x m' => 0 = x ∧ m = m') := by
  refine Wq.few (ls' := [some (pO 44 10 j0)]) ⟨rfl, trivial⟩ ?_
  refine Wq.getsC dJ0_coder_7d493_0 gs_J0_38 ?_
  refine Wq.ifeq (tgt := 13) dJ0_coder_7d493_3 (by decide) (fun q9 => absurd q9 (by decide)) (fun _ => ?_)
  refine Wq.aload_n (t := 44) (r := 10) (j := j0) dJ0_coder_7d493_6 rfl ?_
  refine Wq.strC dJ0_coder_7d493_7 sl_J0_15 ?_
  refine Wq.goto (tgt := 14) dJ0_coder_7d493_10 (by decide) ?_
  exact Wq.iret dJ0_coder_7d493_14 (⟨_, rfl, by decide⟩) ⟨rfl, rfl, rfl, rfl⟩
set_option maxHeartbeats 4000000 in
set_option maxRecDepth 20000 in
theorem suJ0_isLatin1_aae02 {g : GG} {d : Nat} {m : PM} {j0 : Nat} (h : True) : Wp g d MJ0_isLatin1_aae02 0 [some (pO 44 10 j0)] [] m (cI fun x m' => 1 = x ∧ m = m') := by
  refine Wq.few (ls' := [some (pO 44 10 j0)]) ⟨rfl, trivial⟩ ?_
  refine Wq.getsC dJ0_isLatin1_aae02_0 gs_J0_38 ?_
  refine Wq.ifeq (tgt := 17) dJ0_isLatin1_aae02_3 (by decide) (fun q9 => absurd q9 (by decide)) (fun _ => ?_)
  refine Wq.aload_n (t := 44) (r := 10) (j := j0) dJ0_isLatin1_aae02_6 rfl ?_
  refine Wq.strC dJ0_isLatin1_aae02_7 sl_J0_15 ?_
  refine Wq.ifne (tgt := 17) dJ0_isLatin1_aae02_10 (by decide) (fun q9 => absurd q9 (by decide)) (fun _ => ?_)
  refine Wq.iconst (v := 1) dJ0_isLatin1_aae02_13 (by decide) ?_
  refine Wq.goto (tgt := 18) dJ0_isLatin1_aae02_14 (by decide) ?_
  exact Wq.iret dJ0_isLatin1_aae02_18 (⟨_, rfl, by decide⟩) ⟨rfl, rfl, rfl, rfl⟩
set_option maxHeartbeats 4000000 in
set_option maxRecDepth 20000 in
theorem suJ2_length_9d52b {g : GG} {d : Nat} {m : PM} {j0 : Nat} (h : True) : Wp g d MJ2_length_9d52b 0 [some (pO 45 10 j0)] [] m (cI fun x m' => ((nI (wdL.getD j0 0)) >>> (1 &&& 31)) = x ∧ m = m') := by
  refine Wq.few (ls' := [some (pO 45 10 j0)]) ⟨rfl, trivial⟩ ?_
  refine Wq.aload_n (t := 45) (r := 10) (j := j0) dJ2_length_9d52b_0 rfl ?_
  refine Wq.lenB dJ2_length_9d52b_1 ?_
  refine Wq.iconst (v := 1) dJ2_length_9d52b_2 (by decide) ?_
  refine Wq.ishr dJ2_length_9d52b_3 ?_
  exact Wq.iret dJ2_length_9d52b_4 (⟨_, rfl, rfl⟩) ⟨rfl, rfl, rfl, rfl⟩
set_option maxHeartbeats 4000000 in
set_option maxRecDepth 20000 in
theorem suX4_isSetting {g : GG} {d : Nat} {m : PM} {x0 : Int32} (h : True) : Wp g (d + 1) MX4_isSetting 0 [some (pI x0)] [] m (cI fun x m' => (bI ((¬ x0 < (0 : Int32)) ∧ (¬ (4 - 1) < x0))) = x ∧ m = m') := by
  refine Wq.few (ls' := [some (pI x0)]) ⟨rfl, trivial⟩ ?_
  refine Wq.iload_n (x := x0) dX4_isSetting_0 rfl ?_
  refine Wq.iconst (v := 0) dX4_isSetting_1 (by decide) ?_
  refine Wq.getsF dX4_isSetting_2 gs_X4_250 ?_
  refine Wq.lenF dX4_isSetting_5 ?_
  refine Wq.iconst (v := 1) dX4_isSetting_6 (by decide) ?_
  refine Wq.isub dX4_isSetting_7 ?_
  refine Wq.callSI (As := [pI x0, pI 0, pI (4 - 1)]) dX4_isSetting_8 fX4_isFromTo ml_X4_90 rfl (Nat.le_of_ble_eq_true rfl) (Nat.le_of_ble_eq_true rfl) (suX4_isFromTo trivial) (fun x1 m9 e9 => ?_)
  obtain ⟨rfl, rfl⟩ := e9
  exact Wq.iret dX4_isSetting_11 (⟨_, rfl, bI_narrow _⟩) ⟨rfl, rfl, rfl, rfl⟩
set_option maxHeartbeats 4000000 in
set_option maxRecDepth 20000 in
theorem suX4_partOfCell {g : GG} {d : Nat} {m : PM} {x0 : Int32} {x1 : Int32} (h : True) : Wp g (d + 1) MX4_partOfCell 0 [some (pI x0), some (pI x1)] [] m (cI fun x m' => ((if ¬ x0 = (-1) then (if x1 = 0 then (x0 / 16) else (if x1 = 1 then (irm (x0 / 4) 4) else (irm x0 4))) else (-1)) : Int32) = x ∧ m = m') := by
  refine Wq.few (ls' := [some (pI x0), some (pI x1)]) ⟨rfl, ⟨rfl, trivial⟩⟩ ?_
  refine Wq.iload_n (x := x0) dX4_partOfCell_0 rfl ?_
  refine Wq.iconst (v := (-1)) dX4_partOfCell_1 (by decide) ?_
  refine Wq.icmpne (tgt := 7) dX4_partOfCell_2 (by decide) (fun q1 => ?_) (fun q1 => ?_)
  · refine Wq.iload_n (x := x1) dX4_partOfCell_7 rfl ?_
    by_cases q2 : x1 = 0
    · refine Wq.lookup (tgt := 36) dX4_partOfCell_8 (by decide) (by first | (rw [q2]; done) | (rw [q2]; rfl)) (by decide) ?_
      refine Wq.iload_n (x := x0) dX4_partOfCell_36 rfl ?_
      refine Wq.callSI (As := [pI x0]) dX4_partOfCell_37 fX4_daysTo ml_X4_253 rfl (Nat.le_of_ble_eq_true rfl) (Nat.le_of_ble_eq_true rfl) (suX4_daysTo trivial) (fun x3 m9 e9 => ?_)
      obtain ⟨rfl, rfl⟩ := e9
      exact Wq.iret dX4_partOfCell_40 (⟨_, rfl, rfl⟩) ⟨rfl, rfl, (by rw [if_pos q1, if_pos q2]), rfl⟩
    · by_cases q4 : x1 = 1
      · refine Wq.lookup (tgt := 41) dX4_partOfCell_8 (by decide) (by first | (rw [q4]; done) | (rw [q4]; rfl)) (by decide) ?_
        refine Wq.iload_n (x := x0) dX4_partOfCell_41 rfl ?_
        refine Wq.iconst (v := 4) dX4_partOfCell_42 (by decide) ?_
        refine Wq.idiv dX4_partOfCell_43 (by decide) ?_
        refine Wq.iconst (v := 4) dX4_partOfCell_44 (by decide) ?_
        refine Wq.irem dX4_partOfCell_45 (by decide) ?_
        exact Wq.iret dX4_partOfCell_46 (⟨_, rfl, rfl⟩) ⟨rfl, rfl, (by rw [if_pos q1, if_neg q2, if_pos q4]), rfl⟩
      · refine Wq.lookup (tgt := 47) (off := 39) dX4_partOfCell_8 (by decide) (by show Op.lookupswitch.offset [(0, 28), (1, 33)] _ _ = _; rw [lv_osw (a := 0) q2 (by decide), lv_osw (a := 1) q4 (by decide)]; rfl) (by decide) ?_
        refine Wq.iload_n (x := x0) dX4_partOfCell_47 rfl ?_
        refine Wq.callSI (As := [pI x0]) dX4_partOfCell_48 fX4_examinerAt ml_X4_256 rfl (Nat.le_of_ble_eq_true rfl) (Nat.le_of_ble_eq_true rfl) (suX4_examinerAt trivial) (fun x5 m9 e9 => ?_)
        obtain ⟨rfl, rfl⟩ := e9
        exact Wq.iret dX4_partOfCell_51 (⟨_, rfl, rfl⟩) ⟨rfl, rfl, (by rw [if_pos q1, if_neg q2, if_neg q4]), rfl⟩
  · refine Wq.iconst (v := (-1)) dX4_partOfCell_5 (by decide) ?_
    exact Wq.iret dX4_partOfCell_6 (⟨_, rfl, rfl⟩) ⟨rfl, rfl, (by rw [if_neg (fun z => z q1)]), rfl⟩
set_option maxHeartbeats 4000000 in
set_option maxRecDepth 20000 in
theorem suX5_isPupil {g : GG} {d : Nat} {m : PM} {x1 : Int32} (h : True) : Wp g (d + 1) MX5_isPupil 0 [some (pO 20 9 0), some (pI x1)] [] m (cI fun x m' => (bI ((¬ x1 < (0 : Int32)) ∧ (¬ ((m.1 9 21 0 (ix 2)) - 1) < x1))) = x ∧ m = m') := by
  refine Wq.few (ls' := [some (pO 20 9 0), some (pI x1)]) ⟨rfl, ⟨rfl, trivial⟩⟩ ?_
  refine Wq.iload_n (x := x1) dX5_isPupil_0 rfl ?_
  refine Wq.iconst (v := 0) dX5_isPupil_1 (by decide) ?_
  refine Wq.aload_n (t := 20) (r := 9) (j := 0) dX5_isPupil_2 rfl ?_
  refine Wq.getf (v := pO 21 9 0) dX5_isPupil_3 fl_X5_7 ⟨rfl, rfl, by decide⟩ rfl ?_
  refine Wq.iconst (v := 2) dX5_isPupil_6 (by decide) ?_
  refine Wq.iald dX5_isPupil_7 rfl (vp_dec rfl) ?_
  refine Wq.iconst (v := 1) dX5_isPupil_8 (by decide) ?_
  refine Wq.isub dX5_isPupil_9 ?_
  refine Wq.callSI (As := [pI x1, pI 0, pI ((m.1 9 21 0 (ix 2)) - 1)]) dX5_isPupil_10 fX5_in ml_X5_45 rfl (Nat.le_of_ble_eq_true rfl) (Nat.le_of_ble_eq_true rfl) (suX5_in trivial) (fun x1 m9 e9 => ?_)
  obtain ⟨rfl, rfl⟩ := e9
  exact Wq.iret dX5_isPupil_13 (⟨_, rfl, bI_narrow _⟩) ⟨rfl, rfl, rfl, rfl⟩
set_option maxHeartbeats 4000000 in
set_option maxRecDepth 20000 in
theorem suX5_isExaminer {g : GG} {d : Nat} {m : PM} {x1 : Int32} (h : True) : Wp g (d + 1) MX5_isExaminer 0 [some (pO 20 9 0), some (pI x1)] [] m (cI fun x m' => (bI ((¬ x1 < (0 : Int32)) ∧ (¬ ((m.1 9 21 0 (ix 1)) - 1) < x1))) = x ∧ m = m') := by
  refine Wq.few (ls' := [some (pO 20 9 0), some (pI x1)]) ⟨rfl, ⟨rfl, trivial⟩⟩ ?_
  refine Wq.iload_n (x := x1) dX5_isExaminer_0 rfl ?_
  refine Wq.iconst (v := 0) dX5_isExaminer_1 (by decide) ?_
  refine Wq.aload_n (t := 20) (r := 9) (j := 0) dX5_isExaminer_2 rfl ?_
  refine Wq.getf (v := pO 21 9 0) dX5_isExaminer_3 fl_X5_7 ⟨rfl, rfl, by decide⟩ rfl ?_
  refine Wq.iconst (v := 1) dX5_isExaminer_6 (by decide) ?_
  refine Wq.iald dX5_isExaminer_7 rfl (vp_dec rfl) ?_
  refine Wq.iconst (v := 1) dX5_isExaminer_8 (by decide) ?_
  refine Wq.isub dX5_isExaminer_9 ?_
  refine Wq.callSI (As := [pI x1, pI 0, pI ((m.1 9 21 0 (ix 1)) - 1)]) dX5_isExaminer_10 fX5_in ml_X5_45 rfl (Nat.le_of_ble_eq_true rfl) (Nat.le_of_ble_eq_true rfl) (suX5_in trivial) (fun x1 m9 e9 => ?_)
  obtain ⟨rfl, rfl⟩ := e9
  exact Wq.iret dX5_isExaminer_13 (⟨_, rfl, bI_narrow _⟩) ⟨rfl, rfl, rfl, rfl⟩
set_option maxHeartbeats 4000000 in
set_option maxRecDepth 20000 in
theorem suX5_placeOf {g : GG} {d : Nat} {m : PM} {x0 : Int32} (h : True) : Wp g (d + 1) MX5_placeOf 0 [some (pI x0)] [] m (cI fun x m' => (((9 + (40 * (irm x0 4))) + (4 * (x0 / 16))) + (irm (x0 / 4) 4)) = x ∧ m = m') := by
  refine Wq.few (ls' := [some (pI x0)]) ⟨rfl, trivial⟩ ?_
  refine Wq.iload_n (x := x0) dX5_placeOf_0 rfl ?_
  refine Wq.callSI (As := [pI x0]) dX5_placeOf_1 fX5_examinerOf ml_X5_52 rfl (Nat.le_of_ble_eq_true rfl) (Nat.le_of_ble_eq_true rfl) (suX5_examinerOf trivial) (fun x4 m9 e9 => ?_)
  obtain ⟨rfl, rfl⟩ := e9
  refine Wq.iload_n (x := x0) dX5_placeOf_4 rfl ?_
  refine Wq.callSI (As := [pI x0]) dX5_placeOf_5 fX5_dayOf ml_X5_56 rfl (Nat.le_of_ble_eq_true rfl) (Nat.le_of_ble_eq_true rfl) (suX5_dayOf trivial) (fun x3 m9 e9 => ?_)
  obtain ⟨rfl, rfl⟩ := e9
  refine Wq.iload_n (x := x0) dX5_placeOf_8 rfl ?_
  refine Wq.callSI (As := [pI x0]) dX5_placeOf_9 fX5_slotOf ml_X5_59 rfl (Nat.le_of_ble_eq_true rfl) (Nat.le_of_ble_eq_true rfl) (suX5_slotOf trivial) (fun x2 m9 e9 => ?_)
  obtain ⟨rfl, rfl⟩ := e9
  refine Wq.callSI (As := [pI (irm x0 4), pI (x0 / 16), pI (irm (x0 / 4) 4)]) dX5_placeOf_12 fX5_at ml_X5_62 rfl (Nat.le_of_ble_eq_true rfl) (Nat.le_of_ble_eq_true rfl) (suX5_at trivial) (fun x1 m9 e9 => ?_)
  obtain ⟨rfl, rfl⟩ := e9
  exact Wq.iret dX5_placeOf_15 (⟨_, rfl, rfl⟩) ⟨rfl, rfl, rfl, rfl⟩
set_option maxHeartbeats 4000000 in
set_option maxRecDepth 20000 in
theorem suX5_isAhead {g : GG} {d : Nat} {m : PM} {x1 : Int32} {x2 : Int32} (h : (vp_in ((197 + (12 * x1)) + (5 : Int32)) 341 ∧ (vp_in ((197 + (12 * x2)) + (5 : Int32)) 341 ∧ (¬ 0 < ((m.1 9 21 0 (ix ((197 + (12 * x1)) + (5 : Int32)))) - (m.1 9 21 0 (ix ((197 + (12 * x2)) + (5 : Int32))))) → (((m.1 9 21 0 (ix ((197 + (12 * x1)) + (5 : Int32)))) - (m.1 9 21 0 (ix ((197 + (12 * x2)) + (5 : Int32))))) = 0 → (vp_in ((197 + (12 * x1)) + (6 : Int32)) 341 ∧ (vp_in ((197 + (12 * x2)) + (6 : Int32)) 341 ∧ True))))))) : Wp g (d + 1) MX5_isAhead 0 [some (pO 20 9 0), some (pI x1), some (pI x2)] [] m (cI fun x m' => (bI ((0 < ((m.1 9 21 0 (ix ((197 + (12 * x1)) + (5 : Int32)))) - (m.1 9 21 0 (ix ((197 + (12 * x2)) + (5 : Int32)))))) ∨ ((((m.1 9 21 0 (ix ((197 + (12 * x1)) + (5 : Int32)))) - (m.1 9 21 0 (ix ((197 + (12 * x2)) + (5 : Int32))))) = 0) ∧ (¬ (m.1 9 21 0 (ix ((197 + (12 * x2)) + (6 : Int32)))) ≤ (m.1 9 21 0 (ix ((197 + (12 * x1)) + (6 : Int32)))))))) = x ∧ m = m') := by
  refine Wq.few (ls' := [some (pO 20 9 0), some (pI x1), some (pI x2), none]) ⟨rfl, ⟨rfl, ⟨rfl, trivial⟩⟩⟩ ?_
  refine Wq.aload_n (t := 20) (r := 9) (j := 0) dX5_isAhead_0 rfl ?_
  refine Wq.getf (v := pO 21 9 0) dX5_isAhead_1 fl_X5_7 ⟨rfl, rfl, by decide⟩ rfl ?_
  refine Wq.iload_n (x := x1) dX5_isAhead_4 rfl ?_
  refine Wq.iconst (v := 5) dX5_isAhead_5 (by decide) ?_
  refine Wq.callSI (As := [pI x1, pI 5]) dX5_isAhead_6 fX5_of ml_X5_69 rfl (Nat.le_of_ble_eq_true rfl) (Nat.le_of_ble_eq_true rfl) (suX5_of trivial) (fun x7 m9 e9 => ?_)
  obtain ⟨rfl, rfl⟩ := e9
  refine Wq.iald dX5_isAhead_9 rfl h.1 ?_
  replace h := h.2
  refine Wq.aload_n (t := 20) (r := 9) (j := 0) dX5_isAhead_10 rfl ?_
  refine Wq.getf (v := pO 21 9 0) dX5_isAhead_11 fl_X5_7 ⟨rfl, rfl, by decide⟩ rfl ?_
  refine Wq.iload_n (x := x2) dX5_isAhead_14 rfl ?_
  refine Wq.iconst (v := 5) dX5_isAhead_15 (by decide) ?_
  refine Wq.callSI (As := [pI x2, pI 5]) dX5_isAhead_16 fX5_of ml_X5_69 rfl (Nat.le_of_ble_eq_true rfl) (Nat.le_of_ble_eq_true rfl) (suX5_of trivial) (fun x6 m9 e9 => ?_)
  obtain ⟨rfl, rfl⟩ := e9
  refine Wq.iald dX5_isAhead_19 rfl h.1 ?_
  replace h := h.2
  refine Wq.isub dX5_isAhead_20 ?_
  refine Wq.istore_n (ls2 := [some (pO 20 9 0), some (pI x1), some (pI x2), some (pI ((m.1 9 21 0 (ix ((197 + (12 * x1)) + (5 : Int32)))) - (m.1 9 21 0 (ix ((197 + (12 * x2)) + (5 : Int32))))))]) dX5_isAhead_21 (by decide) rfl ?_
  refine Wq.iload_n (x := ((m.1 9 21 0 (ix ((197 + (12 * x1)) + (5 : Int32)))) - (m.1 9 21 0 (ix ((197 + (12 * x2)) + (5 : Int32)))))) dX5_isAhead_22 rfl ?_
  refine Wq.ifgt (tgt := 55) dX5_isAhead_23 (by decide) (fun q1 => ?_) (fun q1 => ?_)
  · refine Wq.iconst (v := 1) dX5_isAhead_55 (by decide) ?_
    refine Wq.goto (tgt := 60) dX5_isAhead_56 (by decide) ?_
    exact Wq.iret dX5_isAhead_60 (⟨_, rfl, by decide⟩) ⟨rfl, rfl, bI_t (Or.inl q1), rfl⟩
  · replace h := h q1
    refine Wq.iload_n (x := ((m.1 9 21 0 (ix ((197 + (12 * x1)) + (5 : Int32)))) - (m.1 9 21 0 (ix ((197 + (12 * x2)) + (5 : Int32)))))) dX5_isAhead_26 rfl ?_
    refine Wq.ifne (tgt := 59) dX5_isAhead_27 (by decide) (fun q2 => ?_) (fun q2 => ?_)
    · refine Wq.iconst (v := 0) dX5_isAhead_59 (by decide) ?_
      exact Wq.iret dX5_isAhead_60 (⟨_, rfl, by decide⟩) ⟨rfl, rfl, bI_f (fun z => z.elim (fun z => q1 z) (fun z => q2 z.1)), rfl⟩
    · replace h := h q2
      refine Wq.aload_n (t := 20) (r := 9) (j := 0) dX5_isAhead_30 rfl ?_
      refine Wq.getf (v := pO 21 9 0) dX5_isAhead_31 fl_X5_7 ⟨rfl, rfl, by decide⟩ rfl ?_
      refine Wq.iload_n (x := x1) dX5_isAhead_34 rfl ?_
      refine Wq.bipush (v := 6) dX5_isAhead_35 (by decide) ?_
      refine Wq.callSI (As := [pI x1, pI 6]) dX5_isAhead_37 fX5_of ml_X5_69 rfl (Nat.le_of_ble_eq_true rfl) (Nat.le_of_ble_eq_true rfl) (suX5_of trivial) (fun x5 m9 e9 => ?_)
      obtain ⟨rfl, rfl⟩ := e9
      refine Wq.iald dX5_isAhead_40 rfl h.1 ?_
      replace h := h.2
      refine Wq.aload_n (t := 20) (r := 9) (j := 0) dX5_isAhead_41 rfl ?_
      refine Wq.getf (v := pO 21 9 0) dX5_isAhead_42 fl_X5_7 ⟨rfl, rfl, by decide⟩ rfl ?_
      refine Wq.iload_n (x := x2) dX5_isAhead_45 rfl ?_
      refine Wq.bipush (v := 6) dX5_isAhead_46 (by decide) ?_
      refine Wq.callSI (As := [pI x2, pI 6]) dX5_isAhead_48 fX5_of ml_X5_69 rfl (Nat.le_of_ble_eq_true rfl) (Nat.le_of_ble_eq_true rfl) (suX5_of trivial) (fun x4 m9 e9 => ?_)
      obtain ⟨rfl, rfl⟩ := e9
      refine Wq.iald dX5_isAhead_51 rfl h.1 ?_
      replace h := h.2
      refine Wq.icmpge (tgt := 59) dX5_isAhead_52 (by decide) (fun q3 => ?_) (fun q3 => ?_)
      · refine Wq.iconst (v := 0) dX5_isAhead_59 (by decide) ?_
        exact Wq.iret dX5_isAhead_60 (⟨_, rfl, by decide⟩) ⟨rfl, rfl, bI_f (fun z => z.elim (fun z => q1 z) (fun z => (fun z => z q3) z.2)), rfl⟩
      · refine Wq.iconst (v := 1) dX5_isAhead_55 (by decide) ?_
        refine Wq.goto (tgt := 60) dX5_isAhead_56 (by decide) ?_
        exact Wq.iret dX5_isAhead_60 (⟨_, rfl, by decide⟩) ⟨rfl, rfl, bI_t (Or.inr ⟨q2, q3⟩), rfl⟩
set_option maxHeartbeats 4000000 in
set_option maxRecDepth 20000 in
theorem suX5_told {g : GG} {d : Nat} {m : PM} {x0 : Int32} {x1 : Int32} (h : True) : Wp g (d + 1) MX5_told 0 [some (pI x0), some (pI x1)] [] m (cI fun x m' => ((if ¬ x0 = (-1) then (if ¬ x1 = 0 then (if ¬ x1 = 1 then (irm x0 4) else (irm (x0 / 4) 4)) else (x0 / 16)) else (-1)) : Int32) = x ∧ m = m') := by
  refine Wq.few (ls' := [some (pI x0), some (pI x1)]) ⟨rfl, ⟨rfl, trivial⟩⟩ ?_
  refine Wq.iload_n (x := x0) dX5_told_0 rfl ?_
  refine Wq.iconst (v := (-1)) dX5_told_1 (by decide) ?_
  refine Wq.icmpne (tgt := 9) dX5_told_2 (by decide) (fun q1 => ?_) (fun q1 => ?_)
  · refine Wq.iload_n (x := x1) dX5_told_9 rfl ?_
    refine Wq.ifne (tgt := 20) dX5_told_10 (by decide) (fun q2 => ?_) (fun q2 => ?_)
    · refine Wq.iload_n (x := x1) dX5_told_20 rfl ?_
      refine Wq.iconst (v := 1) dX5_told_21 (by decide) ?_
      refine Wq.icmpne (tgt := 32) dX5_told_22 (by decide) (fun q3 => ?_) (fun q3 => ?_)
      · refine Wq.iload_n (x := x0) dX5_told_32 rfl ?_
        refine Wq.callSI (As := [pI x0]) dX5_told_33 fX5_examinerOf ml_X5_52 rfl (Nat.le_of_ble_eq_true rfl) (Nat.le_of_ble_eq_true rfl) (suX5_examinerOf trivial) (fun x4 m9 e9 => ?_)
        obtain ⟨rfl, rfl⟩ := e9
        exact Wq.iret dX5_told_36 (⟨_, rfl, rfl⟩) ⟨rfl, rfl, (by rw [if_pos q1, if_pos q2, if_pos q3]), rfl⟩
      · refine Wq.iload_n (x := x0) dX5_told_25 rfl ?_
        refine Wq.callSI (As := [pI x0]) dX5_told_26 fX5_slotOf ml_X5_59 rfl (Nat.le_of_ble_eq_true rfl) (Nat.le_of_ble_eq_true rfl) (suX5_slotOf trivial) (fun x5 m9 e9 => ?_)
        obtain ⟨rfl, rfl⟩ := e9
        refine Wq.goto (tgt := 36) dX5_told_29 (by decide) ?_
        exact Wq.iret dX5_told_36 (⟨_, rfl, rfl⟩) ⟨rfl, rfl, (by rw [if_pos q1, if_pos q2, if_neg (fun z => z q3)]), rfl⟩
    · refine Wq.iload_n (x := x0) dX5_told_13 rfl ?_
      refine Wq.callSI (As := [pI x0]) dX5_told_14 fX5_dayOf ml_X5_56 rfl (Nat.le_of_ble_eq_true rfl) (Nat.le_of_ble_eq_true rfl) (suX5_dayOf trivial) (fun x6 m9 e9 => ?_)
      obtain ⟨rfl, rfl⟩ := e9
      refine Wq.goto (tgt := 36) dX5_told_17 (by decide) ?_
      exact Wq.iret dX5_told_36 (⟨_, rfl, rfl⟩) ⟨rfl, rfl, (by rw [if_pos q1, if_neg (fun z => z q2)]), rfl⟩
  · refine Wq.iconst (v := (-1)) dX5_told_5 (by decide) ?_
    refine Wq.goto (tgt := 36) dX5_told_6 (by decide) ?_
    exact Wq.iret dX5_told_36 (⟨_, rfl, rfl⟩) ⟨rfl, rfl, (by rw [if_neg (fun z => z q1)]), rfl⟩
set_option maxHeartbeats 4000000 in
set_option maxRecDepth 20000 in
theorem suJ0_length_8abf5 {g : GG} {d : Nat} {m : PM} {j0 : Nat} (h : True) : Wp g (d + 1) MJ0_length_8abf5 0 [some (pO 44 10 j0)] [] m (cI fun x m' => ((nI (wdL.getD j0 0)) >>> (0 &&& 31)) = x ∧ m = m') := by
  refine Wq.few (ls' := [some (pO 44 10 j0)]) ⟨rfl, trivial⟩ ?_
  refine Wq.aload_n (t := 44) (r := 10) (j := j0) dJ0_length_8abf5_0 rfl ?_
  refine Wq.strV dJ0_length_8abf5_1 sl_J0_9 ?_
  refine Wq.lenB dJ0_length_8abf5_4 ?_
  refine Wq.aload_n (t := 44) (r := 10) (j := j0) dJ0_length_8abf5_5 rfl ?_
  refine Wq.callStr (As := []) dJ0_length_8abf5_6 fJ0_coder_7d493 ml_J0_335 rfl rfl (Nat.le_of_ble_eq_true rfl) (Nat.le_of_ble_eq_true rfl) (suJ0_coder_7d493 trivial) (fun x1 m9 e9 => ?_)
  obtain ⟨rfl, rfl⟩ := e9
  refine Wq.ishr dJ0_length_8abf5_9 ?_
  exact Wq.iret dJ0_length_8abf5_10 (⟨_, rfl, rfl⟩) ⟨rfl, rfl, rfl, rfl⟩
set_option maxHeartbeats 4000000 in
set_option maxRecDepth 20000 in
theorem suX5_canHave {g : GG} {d : Nat} {m : PM} {x1 : Int32} {x2 : Int32} (h : (¬ (m.1 9 21 0 (ix 1)) ≤ (irm x2 4) → (vp_in (((9 + (40 * (irm x2 4))) + (4 * (x2 / 16))) + (irm (x2 / 4) 4)) 341 ∧ ((m.1 9 21 0 (ix (((9 + (40 * (irm x2 4))) + (4 * (x2 / 16))) + (irm (x2 / 4) 4)))) = (-1) → (vp_in ((197 + (12 * x1)) + (2 : Int32)) 341 ∧ (¬ ((m.1 9 21 0 (ix 0)) + (x2 / 16)) < (m.1 9 21 0 (ix ((197 + (12 * x1)) + (2 : Int32)))) → (¬ (m.1 9 21 0 (ix 6)) = 0 → (vp_in ((197 + (12 * x1)) + (4 : Int32)) 341 ∧ True)))))))) : Wp g (d + 2) MX5_canHave 0 [some (pO 20 9 0), some (pI x1), some (pI x2)] [] m (cI fun x m' => (bI ((¬ (m.1 9 21 0 (ix 1)) ≤ (irm x2 4)) ∧ (((m.1 9 21 0 (ix (((9 + (40 * (irm x2 4))) + (4 * (x2 / 16))) + (irm (x2 / 4) 4)))) = (-1)) ∧ ((¬ ((m.1 9 21 0 (ix 0)) + (x2 / 16)) < (m.1 9 21 0 (ix ((197 + (12 * x1)) + (2 : Int32))))) ∧ (((m.1 9 21 0 (ix 6)) = 0) ∨ (¬ (irm x2 4) = (m.1 9 21 0 (ix ((197 + (12 * x1)) + (4 : Int32)))))))))) = x ∧ m = m') := by
  refine Wq.few (ls' := [some (pO 20 9 0), some (pI x1), some (pI x2), none, none]) ⟨rfl, ⟨rfl, ⟨rfl, trivial⟩⟩⟩ ?_
  refine Wq.iload_n (x := x2) dX5_canHave_0 rfl ?_
  refine Wq.callSI (As := [pI x2]) dX5_canHave_1 fX5_examinerOf ml_X5_52 rfl (Nat.le_of_ble_eq_true rfl) (Nat.le_of_ble_eq_true rfl) (suX5_examinerOf trivial) (fun x10 m9 e9 => ?_)
  obtain ⟨rfl, rfl⟩ := e9
  refine Wq.istore_n (ls2 := [some (pO 20 9 0), some (pI x1), some (pI x2), some (pI (irm x2 4)), none]) dX5_canHave_4 (by decide) rfl ?_
  refine Wq.iload_n (x := (irm x2 4)) dX5_canHave_5 rfl ?_
  refine Wq.aload_n (t := 20) (r := 9) (j := 0) dX5_canHave_6 rfl ?_
  refine Wq.getf (v := pO 21 9 0) dX5_canHave_7 fl_X5_7 ⟨rfl, rfl, by decide⟩ rfl ?_
  refine Wq.iconst (v := 1) dX5_canHave_10 (by decide) ?_
  refine Wq.iald dX5_canHave_11 rfl (vp_dec rfl) ?_
  refine Wq.icmpge (tgt := 32) dX5_canHave_12 (by decide) (fun q1 => ?_) (fun q1 => ?_)
  · refine Wq.iconst (v := 0) dX5_canHave_32 (by decide) ?_
    refine Wq.istore (ls2 := [some (pO 20 9 0), some (pI x1), some (pI x2), some (pI (irm x2 4)), some (pI 0)]) dX5_canHave_33 (by decide) rfl ?_
    refine Wq.iload (x := 0) dX5_canHave_35 rfl ?_
    refine Wq.ifeq (tgt := 92) dX5_canHave_37 (by decide) (fun _ => ?_) (fun q9 => absurd q9 (by decide))
    refine Wq.iconst (v := 0) dX5_canHave_92 (by decide) ?_
    exact Wq.iret dX5_canHave_93 (⟨_, rfl, by decide⟩) ⟨rfl, rfl, bI_f (fun z => z.1 q1), rfl⟩
  · replace h := h q1
    refine Wq.aload_n (t := 20) (r := 9) (j := 0) dX5_canHave_15 rfl ?_
    refine Wq.getf (v := pO 21 9 0) dX5_canHave_16 fl_X5_7 ⟨rfl, rfl, by decide⟩ rfl ?_
    refine Wq.iload_n (x := x2) dX5_canHave_19 rfl ?_
    refine Wq.callSI (As := [pI x2]) dX5_canHave_20 fX5_placeOf ml_X5_66 rfl (Nat.le_of_ble_eq_true rfl) (Nat.le_of_ble_eq_true rfl) (suX5_placeOf trivial) (fun x9 m9 e9 => ?_)
    obtain ⟨rfl, rfl⟩ := e9
    refine Wq.iald dX5_canHave_23 rfl h.1 ?_
    replace h := h.2
    refine Wq.iconst (v := (-1)) dX5_canHave_24 (by decide) ?_
    refine Wq.icmpne (tgt := 32) dX5_canHave_25 (by decide) (fun q2 => ?_) (fun q2 => ?_)
    · refine Wq.iconst (v := 0) dX5_canHave_32 (by decide) ?_
      refine Wq.istore (ls2 := [some (pO 20 9 0), some (pI x1), some (pI x2), some (pI (irm x2 4)), some (pI 0)]) dX5_canHave_33 (by decide) rfl ?_
      refine Wq.iload (x := 0) dX5_canHave_35 rfl ?_
      refine Wq.ifeq (tgt := 92) dX5_canHave_37 (by decide) (fun _ => ?_) (fun q9 => absurd q9 (by decide))
      refine Wq.iconst (v := 0) dX5_canHave_92 (by decide) ?_
      exact Wq.iret dX5_canHave_93 (⟨_, rfl, by decide⟩) ⟨rfl, rfl, bI_f (fun z => (fun z => q2 z.1) z.2), rfl⟩
    · replace h := h q2
      refine Wq.iconst (v := 1) dX5_canHave_28 (by decide) ?_
      refine Wq.goto (tgt := 33) dX5_canHave_29 (by decide) ?_
      refine Wq.istore (ls2 := [some (pO 20 9 0), some (pI x1), some (pI x2), some (pI (irm x2 4)), some (pI 1)]) dX5_canHave_33 (by decide) rfl ?_
      refine Wq.iload (x := 1) dX5_canHave_35 rfl ?_
      refine Wq.ifeq (tgt := 92) dX5_canHave_37 (by decide) (fun q9 => absurd q9 (by decide)) (fun _ => ?_)
      refine Wq.aload_n (t := 20) (r := 9) (j := 0) dX5_canHave_40 rfl ?_
      refine Wq.getf (v := pO 21 9 0) dX5_canHave_41 fl_X5_7 ⟨rfl, rfl, by decide⟩ rfl ?_
      refine Wq.iconst (v := 0) dX5_canHave_44 (by decide) ?_
      refine Wq.iald dX5_canHave_45 rfl (vp_dec rfl) ?_
      refine Wq.iload_n (x := x2) dX5_canHave_46 rfl ?_
      refine Wq.callSI (As := [pI x2]) dX5_canHave_47 fX5_dayOf ml_X5_56 rfl (Nat.le_of_ble_eq_true rfl) (Nat.le_of_ble_eq_true rfl) (suX5_dayOf trivial) (fun x8 m9 e9 => ?_)
      obtain ⟨rfl, rfl⟩ := e9
      refine Wq.iadd dX5_canHave_50 ?_
      refine Wq.aload_n (t := 20) (r := 9) (j := 0) dX5_canHave_51 rfl ?_
      refine Wq.getf (v := pO 21 9 0) dX5_canHave_52 fl_X5_7 ⟨rfl, rfl, by decide⟩ rfl ?_
      refine Wq.iload_n (x := x1) dX5_canHave_55 rfl ?_
      refine Wq.iconst (v := 2) dX5_canHave_56 (by decide) ?_
      refine Wq.callSI (As := [pI x1, pI 2]) dX5_canHave_57 fX5_of ml_X5_69 rfl (Nat.le_of_ble_eq_true rfl) (Nat.le_of_ble_eq_true rfl) (suX5_of trivial) (fun x7 m9 e9 => ?_)
      obtain ⟨rfl, rfl⟩ := e9
      refine Wq.iald dX5_canHave_60 rfl h.1 ?_
      replace h := h.2
      refine Wq.icmplt (tgt := 92) dX5_canHave_61 (by decide) (fun q3 => ?_) (fun q3 => ?_)
      · refine Wq.iconst (v := 0) dX5_canHave_92 (by decide) ?_
        exact Wq.iret dX5_canHave_93 (⟨_, rfl, by decide⟩) ⟨rfl, rfl, bI_f (fun z => (fun z => (fun z => z.1 q3) z.2) z.2), rfl⟩
      · replace h := h q3
        refine Wq.aload_n (t := 20) (r := 9) (j := 0) dX5_canHave_64 rfl ?_
        refine Wq.getf (v := pO 21 9 0) dX5_canHave_65 fl_X5_7 ⟨rfl, rfl, by decide⟩ rfl ?_
        refine Wq.bipush (v := 6) dX5_canHave_68 (by decide) ?_
        refine Wq.iald dX5_canHave_70 rfl (vp_dec rfl) ?_
        refine Wq.ifeq (tgt := 88) dX5_canHave_71 (by decide) (fun q4 => ?_) (fun q4 => ?_)
        · refine Wq.iconst (v := 1) dX5_canHave_88 (by decide) ?_
          refine Wq.goto (tgt := 93) dX5_canHave_89 (by decide) ?_
          exact Wq.iret dX5_canHave_93 (⟨_, rfl, by decide⟩) ⟨rfl, rfl, bI_t ⟨q1, ⟨q2, ⟨q3, (Or.inl q4)⟩⟩⟩, rfl⟩
        · replace h := h q4
          refine Wq.iload_n (x := (irm x2 4)) dX5_canHave_74 rfl ?_
          refine Wq.aload_n (t := 20) (r := 9) (j := 0) dX5_canHave_75 rfl ?_
          refine Wq.getf (v := pO 21 9 0) dX5_canHave_76 fl_X5_7 ⟨rfl, rfl, by decide⟩ rfl ?_
          refine Wq.iload_n (x := x1) dX5_canHave_79 rfl ?_
          refine Wq.iconst (v := 4) dX5_canHave_80 (by decide) ?_
          refine Wq.callSI (As := [pI x1, pI 4]) dX5_canHave_81 fX5_of ml_X5_69 rfl (Nat.le_of_ble_eq_true rfl) (Nat.le_of_ble_eq_true rfl) (suX5_of trivial) (fun x6 m9 e9 => ?_)
          obtain ⟨rfl, rfl⟩ := e9
          refine Wq.iald dX5_canHave_84 rfl h.1 ?_
          replace h := h.2
          refine Wq.icmpeq (tgt := 92) dX5_canHave_85 (by decide) (fun q5 => ?_) (fun q5 => ?_)
          · refine Wq.iconst (v := 0) dX5_canHave_92 (by decide) ?_
            exact Wq.iret dX5_canHave_93 (⟨_, rfl, by decide⟩) ⟨rfl, rfl, bI_f (fun z => (fun z => (fun z => (fun z => z.elim (fun z => q4 z) (fun z => z q5)) z.2) z.2) z.2), rfl⟩
          · refine Wq.iconst (v := 1) dX5_canHave_88 (by decide) ?_
            refine Wq.goto (tgt := 93) dX5_canHave_89 (by decide) ?_
            exact Wq.iret dX5_canHave_93 (⟨_, rfl, by decide⟩) ⟨rfl, rfl, bI_t ⟨q1, ⟨q2, ⟨q3, (Or.inr q5)⟩⟩⟩, rfl⟩
set_option maxHeartbeats 4000000 in
set_option maxRecDepth 20000 in
theorem suX5_askFault {g : GG} {d : Nat} {m : PM} {x1 : Int32} (h : ((¬ x1 < (0 : Int32)) ∧ (¬ ((m.1 9 21 0 (ix 2)) - 1) < x1) → (vp_in ((197 + (12 * x1)) + (0 : Int32)) 341 ∧ True))) : Wp g (d + 2) MX5_askFault 0 [some (pO 20 9 0), some (pI x1)] [] m (cI fun x m' => ((if (¬ x1 < (0 : Int32)) ∧ (¬ ((m.1 9 21 0 (ix 2)) - 1) < x1) then (if (m.1 9 21 0 (ix ((197 + (12 * x1)) + (0 : Int32)))) = 0 then 0 else 2) else 1) : Int32) = x ∧ m = m') := by
  refine Wq.few (ls' := [some (pO 20 9 0), some (pI x1)]) ⟨rfl, ⟨rfl, trivial⟩⟩ ?_
  refine Wq.aload_n (t := 20) (r := 9) (j := 0) dX5_askFault_0 rfl ?_
  refine Wq.iload_n (x := x1) dX5_askFault_1 rfl ?_
  refine Wq.callVI (As := [pI x1]) dX5_askFault_2 fX5_isPupil ml_X5_99 rfl (by decide) rfl (Nat.le_of_ble_eq_true rfl) (Nat.le_of_ble_eq_true rfl) (suX5_isPupil trivial) (fun x4 m9 e9 => ?_)
  obtain ⟨rfl, rfl⟩ := e9
  refine Wq.ifne (tgt := 12) dX5_askFault_5 (by decide) (fun q1 => ?_) (fun q1 => ?_)
  · replace h := h (bI_1 q1)
    refine Wq.aload_n (t := 20) (r := 9) (j := 0) dX5_askFault_12 rfl ?_
    refine Wq.getf (v := pO 21 9 0) dX5_askFault_13 fl_X5_7 ⟨rfl, rfl, by decide⟩ rfl ?_
    refine Wq.iload_n (x := x1) dX5_askFault_16 rfl ?_
    refine Wq.iconst (v := 0) dX5_askFault_17 (by decide) ?_
    refine Wq.callSI (As := [pI x1, pI 0]) dX5_askFault_18 fX5_of ml_X5_69 rfl (Nat.le_of_ble_eq_true rfl) (Nat.le_of_ble_eq_true rfl) (suX5_of trivial) (fun x3 m9 e9 => ?_)
    obtain ⟨rfl, rfl⟩ := e9
    refine Wq.iald dX5_askFault_21 rfl h.1 ?_
    replace h := h.2
    refine Wq.ifeq (tgt := 29) dX5_askFault_22 (by decide) (fun q2 => ?_) (fun q2 => ?_)
    · refine Wq.iconst (v := 0) dX5_askFault_29 (by decide) ?_
      exact Wq.iret dX5_askFault_30 (⟨_, rfl, rfl⟩) ⟨rfl, rfl, (by rw [if_pos (bI_1 q1), if_pos q2]), rfl⟩
    · refine Wq.iconst (v := 2) dX5_askFault_25 (by decide) ?_
      refine Wq.goto (tgt := 30) dX5_askFault_26 (by decide) ?_
      exact Wq.iret dX5_askFault_30 (⟨_, rfl, rfl⟩) ⟨rfl, rfl, (by rw [if_pos (bI_1 q1), if_neg q2]), rfl⟩
  · refine Wq.iconst (v := 1) dX5_askFault_8 (by decide) ?_
    refine Wq.goto (tgt := 30) dX5_askFault_9 (by decide) ?_
    exact Wq.iret dX5_askFault_30 (⟨_, rfl, rfl⟩) ⟨rfl, rfl, (by rw [if_neg (bI_0 q1)]), rfl⟩
set_option maxHeartbeats 4000000 in
set_option maxRecDepth 20000 in
theorem suX5_quitFault {g : GG} {d : Nat} {m : PM} {x1 : Int32} (h : ((¬ x1 < (0 : Int32)) ∧ (¬ ((m.1 9 21 0 (ix 2)) - 1) < x1) → (vp_in ((197 + (12 * x1)) + (0 : Int32)) 341 ∧ True))) : Wp g (d + 2) MX5_quitFault 0 [some (pO 20 9 0), some (pI x1)] [] m (cI fun x m' => ((if (¬ x1 < (0 : Int32)) ∧ (¬ ((m.1 9 21 0 (ix 2)) - 1) < x1) then (if (¬ (m.1 9 21 0 (ix ((197 + (12 * x1)) + (0 : Int32)))) < (1 : Int32)) ∧ (¬ (2 : Int32) < (m.1 9 21 0 (ix ((197 + (12 * x1)) + (0 : Int32))))) then 0 else 2) else 1) : Int32) = x ∧ m = m') := by
  refine Wq.few (ls' := [some (pO 20 9 0), some (pI x1)]) ⟨rfl, ⟨rfl, trivial⟩⟩ ?_
  refine Wq.aload_n (t := 20) (r := 9) (j := 0) dX5_quitFault_0 rfl ?_
  refine Wq.iload_n (x := x1) dX5_quitFault_1 rfl ?_
  refine Wq.callVI (As := [pI x1]) dX5_quitFault_2 fX5_isPupil ml_X5_99 rfl (by decide) rfl (Nat.le_of_ble_eq_true rfl) (Nat.le_of_ble_eq_true rfl) (suX5_isPupil trivial) (fun x5 m9 e9 => ?_)
  obtain ⟨rfl, rfl⟩ := e9
  refine Wq.ifne (tgt := 12) dX5_quitFault_5 (by decide) (fun q1 => ?_) (fun q1 => ?_)
  · replace h := h (bI_1 q1)
    refine Wq.aload_n (t := 20) (r := 9) (j := 0) dX5_quitFault_12 rfl ?_
    refine Wq.getf (v := pO 21 9 0) dX5_quitFault_13 fl_X5_7 ⟨rfl, rfl, by decide⟩ rfl ?_
    refine Wq.iload_n (x := x1) dX5_quitFault_16 rfl ?_
    refine Wq.iconst (v := 0) dX5_quitFault_17 (by decide) ?_
    refine Wq.callSI (As := [pI x1, pI 0]) dX5_quitFault_18 fX5_of ml_X5_69 rfl (Nat.le_of_ble_eq_true rfl) (Nat.le_of_ble_eq_true rfl) (suX5_of trivial) (fun x4 m9 e9 => ?_)
    obtain ⟨rfl, rfl⟩ := e9
    refine Wq.iald dX5_quitFault_21 rfl h.1 ?_
    replace h := h.2
    refine Wq.iconst (v := 1) dX5_quitFault_22 (by decide) ?_
    refine Wq.iconst (v := 2) dX5_quitFault_23 (by decide) ?_
    refine Wq.callSI (As := [pI (m.1 9 21 0 (ix ((197 + (12 * x1)) + (0 : Int32)))), pI 1, pI 2]) dX5_quitFault_24 fX5_in ml_X5_45 rfl (Nat.le_of_ble_eq_true rfl) (Nat.le_of_ble_eq_true rfl) (suX5_in trivial) (fun x3 m9 e9 => ?_)
    obtain ⟨rfl, rfl⟩ := e9
    refine Wq.ifne (tgt := 34) dX5_quitFault_27 (by decide) (fun q2 => ?_) (fun q2 => ?_)
    · refine Wq.iconst (v := 0) dX5_quitFault_34 (by decide) ?_
      exact Wq.iret dX5_quitFault_35 (⟨_, rfl, rfl⟩) ⟨rfl, rfl, (by rw [if_pos (bI_1 q1), if_pos (bI_1 q2)]), rfl⟩
    · refine Wq.iconst (v := 2) dX5_quitFault_30 (by decide) ?_
      refine Wq.goto (tgt := 35) dX5_quitFault_31 (by decide) ?_
      exact Wq.iret dX5_quitFault_35 (⟨_, rfl, rfl⟩) ⟨rfl, rfl, (by rw [if_pos (bI_1 q1), if_neg (bI_0 q2)]), rfl⟩
  · refine Wq.iconst (v := 1) dX5_quitFault_8 (by decide) ?_
    refine Wq.goto (tgt := 35) dX5_quitFault_9 (by decide) ?_
    exact Wq.iret dX5_quitFault_35 (⟨_, rfl, rfl⟩) ⟨rfl, rfl, (by rw [if_neg (bI_0 q1)]), rfl⟩
set_option maxHeartbeats 4000000 in
set_option maxRecDepth 20000 in
theorem suX5_cancelFault {g : GG} {d : Nat} {m : PM} {x1 : Int32} {x2 : Int32} (h : True) : Wp g (d + 2) MX5_cancelFault 0 [some (pO 20 9 0), some (pI x1), some (pI x2)] [] m (cI fun x m' => ((if (¬ x1 < (0 : Int32)) ∧ (¬ ((m.1 9 21 0 (ix 1)) - 1) < x1) then (if (¬ x2 < (0 : Int32)) ∧ (¬ (9 : Int32) < x2) then 0 else 2) else 1) : Int32) = x ∧ m = m') := by
  refine Wq.few (ls' := [some (pO 20 9 0), some (pI x1), some (pI x2)]) ⟨rfl, ⟨rfl, ⟨rfl, trivial⟩⟩⟩ ?_
  refine Wq.aload_n (t := 20) (r := 9) (j := 0) dX5_cancelFault_0 rfl ?_
  refine Wq.iload_n (x := x1) dX5_cancelFault_1 rfl ?_
  refine Wq.callVI (As := [pI x1]) dX5_cancelFault_2 fX5_isExaminer ml_X5_121 rfl (by decide) rfl (Nat.le_of_ble_eq_true rfl) (Nat.le_of_ble_eq_true rfl) (suX5_isExaminer trivial) (fun x4 m9 e9 => ?_)
  obtain ⟨rfl, rfl⟩ := e9
  refine Wq.ifne (tgt := 12) dX5_cancelFault_5 (by decide) (fun q1 => ?_) (fun q1 => ?_)
  · refine Wq.iload_n (x := x2) dX5_cancelFault_12 rfl ?_
    refine Wq.iconst (v := 0) dX5_cancelFault_13 (by decide) ?_
    refine Wq.bipush (v := 9) dX5_cancelFault_14 (by decide) ?_
    refine Wq.callSI (As := [pI x2, pI 0, pI 9]) dX5_cancelFault_16 fX5_in ml_X5_45 rfl (Nat.le_of_ble_eq_true rfl) (Nat.le_of_ble_eq_true rfl) (suX5_in trivial) (fun x3 m9 e9 => ?_)
    obtain ⟨rfl, rfl⟩ := e9
    refine Wq.ifne (tgt := 26) dX5_cancelFault_19 (by decide) (fun q2 => ?_) (fun q2 => ?_)
    · refine Wq.iconst (v := 0) dX5_cancelFault_26 (by decide) ?_
      exact Wq.iret dX5_cancelFault_27 (⟨_, rfl, rfl⟩) ⟨rfl, rfl, (by rw [if_pos (bI_1 q1), if_pos (bI_1 q2)]), rfl⟩
    · refine Wq.iconst (v := 2) dX5_cancelFault_22 (by decide) ?_
      refine Wq.goto (tgt := 27) dX5_cancelFault_23 (by decide) ?_
      exact Wq.iret dX5_cancelFault_27 (⟨_, rfl, rfl⟩) ⟨rfl, rfl, (by rw [if_pos (bI_1 q1), if_neg (bI_0 q2)]), rfl⟩
  · refine Wq.iconst (v := 1) dX5_cancelFault_8 (by decide) ?_
    refine Wq.goto (tgt := 27) dX5_cancelFault_9 (by decide) ?_
    exact Wq.iret dX5_cancelFault_27 (⟨_, rfl, rfl⟩) ⟨rfl, rfl, (by rw [if_neg (bI_0 q1)]), rfl⟩
set_option maxHeartbeats 4000000 in
set_option maxRecDepth 20000 in
theorem suJ1_charAt_3b067 {g : GG} {d : Nat} {m : PM} {j0 : Nat} {x1 : Int32} (h : (¬ x1 < 0 ∧ (x1 < (nI (wdL.getD j0 0)) ∧ (vp_in x1 (wdL.getD j0 0) ∧ True)))) : Wp g (d + 2) MJ1_charAt_3b067 0 [some (pO 45 10 j0), some (pI x1)] [] m (cI fun x m' => (Int32.toUInt32 (((wdB.getD j0 []).getD (ix x1) 0) &&& 255) % 65536).toInt32 = x ∧ m = m') := by
  refine Wq.few (ls' := [some (pO 45 10 j0), some (pI x1)]) ⟨rfl, ⟨rfl, trivial⟩⟩ ?_
  refine Wq.iload_n (x := x1) dJ1_charAt_3b067_0 rfl ?_
  refine Wq.aload_n (t := 45) (r := 10) (j := j0) dJ1_charAt_3b067_1 rfl ?_
  refine Wq.lenB dJ1_charAt_3b067_2 ?_
  refine Wq.checkIndex dJ1_charAt_3b067_3 ml_J1_9 h.1 h.2.1 (Nat.le_of_ble_eq_true rfl) ?_
  replace h := h.2.2
  refine Wq.aload_n (t := 45) (r := 10) (j := j0) dJ1_charAt_3b067_6 rfl ?_
  refine Wq.iload_n (x := x1) dJ1_charAt_3b067_7 rfl ?_
  refine Wq.baldB dJ1_charAt_3b067_8 h.1 ?_
  replace h := h.2
  refine Wq.sipush (v := 255) dJ1_charAt_3b067_9 (by decide) ?_
  refine Wq.iand dJ1_charAt_3b067_12 ?_
  refine Wq.i2c dJ1_charAt_3b067_13 ?_
  exact Wq.iret dJ1_charAt_3b067_14 (⟨_, rfl, pk_nc _⟩) ⟨rfl, rfl, rfl, rfl⟩
set_option maxHeartbeats 4000000 in
set_option maxRecDepth 20000 in
theorem suJ0_charAt_5068e {g : GG} {d : Nat} {m : PM} {j0 : Nat} {x1 : Int32} (h : ((¬ x1 < 0 ∧ (x1 < (nI (wdL.getD j0 0)) ∧ (vp_in x1 (wdL.getD j0 0) ∧ True))) ∧ True)) : Wp g (d + 3) MJ0_charAt_5068e 0 [some (pO 44 10 j0), some (pI x1)] [] m (cI fun x m' => (Int32.toUInt32 (((wdB.getD j0 []).getD (ix x1) 0) &&& 255) % 65536).toInt32 = x ∧ m = m') := by
  refine Wq.few (ls' := [some (pO 44 10 j0), some (pI x1)]) ⟨rfl, ⟨rfl, trivial⟩⟩ ?_
  refine Wq.aload_n (t := 44) (r := 10) (j := j0) dJ0_charAt_5068e_0 rfl ?_
  refine Wq.callStr (As := []) dJ0_charAt_5068e_1 fJ0_isLatin1_aae02 ml_J0_492 rfl rfl (Nat.le_of_ble_eq_true rfl) (Nat.le_of_ble_eq_true rfl) (suJ0_isLatin1_aae02 trivial) (fun x2 m9 e9 => ?_)
  obtain ⟨rfl, rfl⟩ := e9
  refine Wq.ifeq (tgt := 16) dJ0_charAt_5068e_4 (by decide) (fun q9 => absurd q9 (by decide)) (fun _ => ?_)
  refine Wq.aload_n (t := 44) (r := 10) (j := j0) dJ0_charAt_5068e_7 rfl ?_
  refine Wq.strV dJ0_charAt_5068e_8 sl_J0_9 ?_
  refine Wq.iload_n (x := x1) dJ0_charAt_5068e_11 rfl ?_
  refine Wq.callSI (As := [pO 45 10 j0, pI x1]) dJ0_charAt_5068e_12 fJ1_charAt_3b067 ml_J0_495 rfl (Nat.le_of_ble_eq_true rfl) (Nat.le_of_ble_eq_true rfl) (suJ1_charAt_3b067 h.1) (fun x1 m9 e9 => ?_)
  obtain ⟨rfl, rfl⟩ := e9
  replace h := h.2
  exact Wq.iret dJ0_charAt_5068e_15 (⟨_, rfl, pk_nc _⟩) ⟨rfl, rfl, rfl, rfl⟩
