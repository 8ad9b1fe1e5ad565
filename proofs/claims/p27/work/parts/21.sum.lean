/-! SUMMARIES of small methods (laid by wip/p27/gen/gen.py) -/
set_option maxHeartbeats 4000000 in
set_option maxRecDepth 20000 in
theorem suX4_isFromTo {g : GG} {d : Nat} {m : PM} {x0 : Int32} {x1 : Int32} {x2 : Int32} (h : True) : Wp g d MX4_isFromTo 0 [some (pI x0), some (pI x1), some (pI x2)] [] m (cI fun x m' => (bI ((¬ x0 < x1) ∧ (¬ x2 < x0))) = x ∧ m = m') := by
  refine Wq.few (ls' := [some (pI x0), some (pI x1), some (pI x2)]) ⟨rfl, ⟨rfl, ⟨rfl, trivial⟩⟩⟩ ?_
  refine Wq.iload_n (x := x0) dX4_isFromTo_0 rfl ?_
  refine Wq.iload_n (x := x1) dX4_isFromTo_1 rfl ?_
  refine Wq.icmplt (tgt := 14) dX4_isFromTo_2 (by decide) (fun q1 => ?_) (fun q1 => ?_)
  · refine Wq.iconst (v := 0) dX4_isFromTo_14 (by decide) ?_
    exact Wq.iret dX4_isFromTo_15 (⟨_, rfl, by decide⟩) ⟨rfl, rfl, bI_f (fun z => z.1 q1), rfl⟩
  · refine Wq.iload_n (x := x0) dX4_isFromTo_5 rfl ?_
    refine Wq.iload_n (x := x2) dX4_isFromTo_6 rfl ?_
    refine Wq.icmpgt (tgt := 14) dX4_isFromTo_7 (by decide) (fun q2 => ?_) (fun q2 => ?_)
    · refine Wq.iconst (v := 0) dX4_isFromTo_14 (by decide) ?_
      exact Wq.iret dX4_isFromTo_15 (⟨_, rfl, by decide⟩) ⟨rfl, rfl, bI_f (fun z => (fun z => z q2) z.2), rfl⟩
    · refine Wq.iconst (v := 1) dX4_isFromTo_10 (by decide) ?_
      refine Wq.goto (tgt := 15) dX4_isFromTo_11 (by decide) ?_
      exact Wq.iret dX4_isFromTo_15 (⟨_, rfl, by decide⟩) ⟨rfl, rfl, bI_t ⟨q1, q2⟩, rfl⟩
set_option maxHeartbeats 4000000 in
set_option maxRecDepth 20000 in
theorem suX4_cellAt {g : GG} {d : Nat} {m : PM} {x0 : Int32} {x1 : Int32} {x2 : Int32} (h : True) : Wp g d MX4_cellAt 0 [some (pI x0), some (pI x1), some (pI x2)] [] m (cI fun x m' => (((x1 * 16) + (x2 * 4)) + x0) = x ∧ m = m') := by
  refine Wq.few (ls' := [some (pI x0), some (pI x1), some (pI x2)]) ⟨rfl, ⟨rfl, ⟨rfl, trivial⟩⟩⟩ ?_
  refine Wq.iload_n (x := x1) dX4_cellAt_0 rfl ?_
  refine Wq.bipush (v := 16) dX4_cellAt_1 (by decide) ?_
  refine Wq.imul dX4_cellAt_3 ?_
  refine Wq.iload_n (x := x2) dX4_cellAt_4 rfl ?_
  refine Wq.iconst (v := 4) dX4_cellAt_5 (by decide) ?_
  refine Wq.imul dX4_cellAt_6 ?_
  refine Wq.iadd dX4_cellAt_7 ?_
  refine Wq.iload_n (x := x0) dX4_cellAt_8 rfl ?_
  refine Wq.iadd dX4_cellAt_9 ?_
  exact Wq.iret dX4_cellAt_10 (⟨_, rfl, rfl⟩) ⟨rfl, rfl, rfl, rfl⟩
set_option maxHeartbeats 4000000 in
set_option maxRecDepth 20000 in
theorem suX4_daysTo {g : GG} {d : Nat} {m : PM} {x0 : Int32} (h : True) : Wp g d MX4_daysTo 0 [some (pI x0)] [] m (cI fun x m' => (x0 / 16) = x ∧ m = m') := by
  refine Wq.few (ls' := [some (pI x0)]) ⟨rfl, trivial⟩ ?_
  refine Wq.iload_n (x := x0) dX4_daysTo_0 rfl ?_
  refine Wq.bipush (v := 16) dX4_daysTo_1 (by decide) ?_
  refine Wq.idiv dX4_daysTo_3 (by decide) ?_
  exact Wq.iret dX4_daysTo_4 (⟨_, rfl, rfl⟩) ⟨rfl, rfl, rfl, rfl⟩
set_option maxHeartbeats 4000000 in
set_option maxRecDepth 20000 in
theorem suX4_examinerAt {g : GG} {d : Nat} {m : PM} {x0 : Int32} (h : True) : Wp g d MX4_examinerAt 0 [some (pI x0)] [] m (cI fun x m' => (irm x0 4) = x ∧ m = m') := by
  refine Wq.few (ls' := [some (pI x0)]) ⟨rfl, trivial⟩ ?_
  refine Wq.iload_n (x := x0) dX4_examinerAt_0 rfl ?_
  refine Wq.iconst (v := 4) dX4_examinerAt_1 (by decide) ?_
  refine Wq.irem dX4_examinerAt_2 (by decide) ?_
  exact Wq.iret dX4_examinerAt_3 (⟨_, rfl, rfl⟩) ⟨rfl, rfl, rfl, rfl⟩
set_option maxHeartbeats 4000000 in
set_option maxRecDepth 20000 in
theorem suX1_hasPupil {g : GG} {d : Nat} {m : PM} {r : Nat} {x1 : Int32} (h : True) : Wp g d MX1_hasPupil 0 [some (pO 0 r 0), some (pI x1)] [] m (cI fun x m' => (bI ((¬ x1 < 0) ∧ (¬ (m.1 r 0 0 2) ≤ x1))) = x ∧ m = m') := by
  refine Wq.few (ls' := [some (pO 0 r 0), some (pI x1)]) ⟨rfl, ⟨rfl, trivial⟩⟩ ?_
  refine Wq.iload_n (x := x1) dX1_hasPupil_0 rfl ?_
  refine Wq.iflt (tgt := 16) dX1_hasPupil_1 (by decide) (fun q1 => ?_) (fun q1 => ?_)
  · refine Wq.iconst (v := 0) dX1_hasPupil_16 (by decide) ?_
    exact Wq.iret dX1_hasPupil_17 (⟨_, rfl, by decide⟩) ⟨rfl, rfl, bI_f (fun z => z.1 q1), rfl⟩
  · refine Wq.iload_n (x := x1) dX1_hasPupil_4 rfl ?_
    refine Wq.aload_n (t := 0) (r := r) (j := 0) dX1_hasPupil_5 rfl ?_
    refine Wq.getf (v := pI (m.1 r 0 0 2)) dX1_hasPupil_6 fl_X1_18 ⟨rfl, rfl, by decide⟩ rfl ?_
    refine Wq.icmpge (tgt := 16) dX1_hasPupil_9 (by decide) (fun q2 => ?_) (fun q2 => ?_)
    · refine Wq.iconst (v := 0) dX1_hasPupil_16 (by decide) ?_
      exact Wq.iret dX1_hasPupil_17 (⟨_, rfl, by decide⟩) ⟨rfl, rfl, bI_f (fun z => (fun z => z q2) z.2), rfl⟩
    · refine Wq.iconst (v := 1) dX1_hasPupil_12 (by decide) ?_
      refine Wq.goto (tgt := 17) dX1_hasPupil_13 (by decide) ?_
      exact Wq.iret dX1_hasPupil_17 (⟨_, rfl, by decide⟩) ⟨rfl, rfl, bI_t ⟨q1, q2⟩, rfl⟩
set_option maxHeartbeats 4000000 in
set_option maxRecDepth 20000 in
theorem suX1_hasExaminer {g : GG} {d : Nat} {m : PM} {r : Nat} {x1 : Int32} (h : True) : Wp g d MX1_hasExaminer 0 [some (pO 0 r 0), some (pI x1)] [] m (cI fun x m' => (bI ((¬ x1 < 0) ∧ (¬ (m.1 r 0 0 1) ≤ x1))) = x ∧ m = m') := by
  refine Wq.few (ls' := [some (pO 0 r 0), some (pI x1)]) ⟨rfl, ⟨rfl, trivial⟩⟩ ?_
  refine Wq.iload_n (x := x1) dX1_hasExaminer_0 rfl ?_
  refine Wq.iflt (tgt := 16) dX1_hasExaminer_1 (by decide) (fun q1 => ?_) (fun q1 => ?_)
  · refine Wq.iconst (v := 0) dX1_hasExaminer_16 (by decide) ?_
    exact Wq.iret dX1_hasExaminer_17 (⟨_, rfl, by decide⟩) ⟨rfl, rfl, bI_f (fun z => z.1 q1), rfl⟩
  · refine Wq.iload_n (x := x1) dX1_hasExaminer_4 rfl ?_
    refine Wq.aload_n (t := 0) (r := r) (j := 0) dX1_hasExaminer_5 rfl ?_
    refine Wq.getf (v := pI (m.1 r 0 0 1)) dX1_hasExaminer_6 fl_X1_15 ⟨rfl, rfl, by decide⟩ rfl ?_
    refine Wq.icmpge (tgt := 16) dX1_hasExaminer_9 (by decide) (fun q2 => ?_) (fun q2 => ?_)
    · refine Wq.iconst (v := 0) dX1_hasExaminer_16 (by decide) ?_
      exact Wq.iret dX1_hasExaminer_17 (⟨_, rfl, by decide⟩) ⟨rfl, rfl, bI_f (fun z => (fun z => z q2) z.2), rfl⟩
    · refine Wq.iconst (v := 1) dX1_hasExaminer_12 (by decide) ?_
      refine Wq.goto (tgt := 17) dX1_hasExaminer_13 (by decide) ?_
      exact Wq.iret dX1_hasExaminer_17 (⟨_, rfl, by decide⟩) ⟨rfl, rfl, bI_t ⟨q1, q2⟩, rfl⟩
set_option maxHeartbeats 4000000 in
set_option maxRecDepth 20000 in
theorem suX1_mayAsk {g : GG} {d : Nat} {m : PM} {r : Nat} {x1 : Int32} (h : (vp_in x1 12 ∧ True)) : Wp g d MX1_mayAsk 0 [some (pO 0 r 0), some (pI x1)] [] m (cI fun x m' => (bI ((m.1 r 4 (ix x1) 0) = 0)) = x ∧ m = m') := by
  refine Wq.few (ls' := [some (pO 0 r 0), some (pI x1)]) ⟨rfl, ⟨rfl, trivial⟩⟩ ?_
  refine Wq.aload_n (t := 0) (r := r) (j := 0) dX1_mayAsk_0 rfl ?_
  refine Wq.getf (v := pO 7 r 0) dX1_mayAsk_1 fl_X1_39 ⟨rfl, rfl, by decide⟩ rfl ?_
  refine Wq.iload_n (x := x1) dX1_mayAsk_4 rfl ?_
  refine Wq.aaldP dX1_mayAsk_5 h.1 ?_
  replace h := h.2
  refine Wq.getf (v := pI (m.1 r 4 (ix x1) 0)) dX1_mayAsk_6 fl_X1_83 ⟨rfl, rfl, by decide⟩ rfl ?_
  refine Wq.ifne (tgt := 16) dX1_mayAsk_9 (by decide) (fun q1 => ?_) (fun q1 => ?_)
  · refine Wq.iconst (v := 0) dX1_mayAsk_16 (by decide) ?_
    exact Wq.iret dX1_mayAsk_17 (⟨_, rfl, by decide⟩) ⟨rfl, rfl, bI_f (fun z => q1 z), rfl⟩
  · refine Wq.iconst (v := 1) dX1_mayAsk_12 (by decide) ?_
    refine Wq.goto (tgt := 17) dX1_mayAsk_13 (by decide) ?_
    exact Wq.iret dX1_mayAsk_17 (⟨_, rfl, by decide⟩) ⟨rfl, rfl, bI_t q1, rfl⟩
set_option maxHeartbeats 4000000 in
set_option maxRecDepth 20000 in
theorem suX1_mayQuit {g : GG} {d : Nat} {m : PM} {r : Nat} {x1 : Int32} (h : (vp_in x1 12 ∧ True)) : Wp g d MX1_mayQuit 0 [some (pO 0 r 0), some (pI x1)] [] m (cI fun x m' => (bI (((m.1 r 4 (ix x1) 0) = 1) ∨ ((m.1 r 4 (ix x1) 0) = 2))) = x ∧ m = m') := by
  refine Wq.few (ls' := [some (pO 0 r 0), some (pI x1), none]) ⟨rfl, ⟨rfl, trivial⟩⟩ ?_
  refine Wq.aload_n (t := 0) (r := r) (j := 0) dX1_mayQuit_0 rfl ?_
  refine Wq.getf (v := pO 7 r 0) dX1_mayQuit_1 fl_X1_39 ⟨rfl, rfl, by decide⟩ rfl ?_
  refine Wq.iload_n (x := x1) dX1_mayQuit_4 rfl ?_
  refine Wq.aaldP dX1_mayQuit_5 h.1 ?_
  replace h := h.2
  refine Wq.getf (v := pI (m.1 r 4 (ix x1) 0)) dX1_mayQuit_6 fl_X1_83 ⟨rfl, rfl, by decide⟩ rfl ?_
  refine Wq.istore_n (ls2 := [some (pO 0 r 0), some (pI x1), some (pI (m.1 r 4 (ix x1) 0))]) dX1_mayQuit_9 (by decide) rfl ?_
  refine Wq.iload_n (x := (m.1 r 4 (ix x1) 0)) dX1_mayQuit_10 rfl ?_
  refine Wq.iconst (v := 1) dX1_mayQuit_11 (by decide) ?_
  refine Wq.icmpeq (tgt := 20) dX1_mayQuit_12 (by decide) (fun q1 => ?_) (fun q1 => ?_)
  · refine Wq.iconst (v := 1) dX1_mayQuit_20 (by decide) ?_
    refine Wq.goto (tgt := 25) dX1_mayQuit_21 (by decide) ?_
    exact Wq.iret dX1_mayQuit_25 (⟨_, rfl, by decide⟩) ⟨rfl, rfl, bI_t (Or.inl q1), rfl⟩
  · refine Wq.iload_n (x := (m.1 r 4 (ix x1) 0)) dX1_mayQuit_15 rfl ?_
    refine Wq.iconst (v := 2) dX1_mayQuit_16 (by decide) ?_
    refine Wq.icmpne (tgt := 24) dX1_mayQuit_17 (by decide) (fun q2 => ?_) (fun q2 => ?_)
    · refine Wq.iconst (v := 0) dX1_mayQuit_24 (by decide) ?_
      exact Wq.iret dX1_mayQuit_25 (⟨_, rfl, by decide⟩) ⟨rfl, rfl, bI_f (fun z => z.elim (fun z => q1 z) (fun z => q2 z)), rfl⟩
    · refine Wq.iconst (v := 1) dX1_mayQuit_20 (by decide) ?_
      refine Wq.goto (tgt := 25) dX1_mayQuit_21 (by decide) ?_
      exact Wq.iret dX1_mayQuit_25 (⟨_, rfl, by decide⟩) ⟨rfl, rfl, bI_t (Or.inr q2), rfl⟩
set_option maxHeartbeats 4000000 in
set_option maxRecDepth 20000 in
theorem suX1_mayGoOn {g : GG} {d : Nat} {m : PM} {r : Nat} (h : True) : Wp g d MX1_mayGoOn 0 [some (pO 0 r 0)] [] m (cI fun x m' => (bI (¬ 9999 ≤ (m.1 r 0 0 0))) = x ∧ m = m') := by
  refine Wq.few (ls' := [some (pO 0 r 0)]) ⟨rfl, trivial⟩ ?_
  refine Wq.aload_n (t := 0) (r := r) (j := 0) dX1_mayGoOn_0 rfl ?_
  refine Wq.getf (v := pI (m.1 r 0 0 0)) dX1_mayGoOn_1 fl_X1_9 ⟨rfl, rfl, by decide⟩ rfl ?_
  refine Wq.sipush (v := 9999) dX1_mayGoOn_4 (by decide) ?_
  refine Wq.icmpge (tgt := 14) dX1_mayGoOn_7 (by decide) (fun q1 => ?_) (fun q1 => ?_)
  · refine Wq.iconst (v := 0) dX1_mayGoOn_14 (by decide) ?_
    exact Wq.iret dX1_mayGoOn_15 (⟨_, rfl, by decide⟩) ⟨rfl, rfl, bI_f (fun z => z q1), rfl⟩
  · refine Wq.iconst (v := 1) dX1_mayGoOn_10 (by decide) ?_
    refine Wq.goto (tgt := 15) dX1_mayGoOn_11 (by decide) ?_
    exact Wq.iret dX1_mayGoOn_15 (⟨_, rfl, by decide⟩) ⟨rfl, rfl, bI_t q1, rfl⟩
set_option maxHeartbeats 4000000 in
set_option maxRecDepth 20000 in
theorem suX1_couldCome {g : GG} {d : Nat} {m : PM} {r : Nat} {x1 : Int32} {x2 : Int32} (h : (vp_in x1 12 ∧ True)) : Wp g d MX1_couldCome 0 [some (pO 0 r 0), some (pI x1), some (pI x2)] [] m (cI fun x m' => (bI (¬ ((m.1 r 0 0 0) + x2) < (m.1 r 4 (ix x1) 2))) = x ∧ m = m') := by
  refine Wq.few (ls' := [some (pO 0 r 0), some (pI x1), some (pI x2)]) ⟨rfl, ⟨rfl, ⟨rfl, trivial⟩⟩⟩ ?_
  refine Wq.aload_n (t := 0) (r := r) (j := 0) dX1_couldCome_0 rfl ?_
  refine Wq.getf (v := pI (m.1 r 0 0 0)) dX1_couldCome_1 fl_X1_9 ⟨rfl, rfl, by decide⟩ rfl ?_
  refine Wq.iload_n (x := x2) dX1_couldCome_4 rfl ?_
  refine Wq.iadd dX1_couldCome_5 ?_
  refine Wq.aload_n (t := 0) (r := r) (j := 0) dX1_couldCome_6 rfl ?_
  refine Wq.getf (v := pO 7 r 0) dX1_couldCome_7 fl_X1_39 ⟨rfl, rfl, by decide⟩ rfl ?_
  refine Wq.iload_n (x := x1) dX1_couldCome_10 rfl ?_
  refine Wq.aaldP dX1_couldCome_11 h.1 ?_
  replace h := h.2
  refine Wq.getf (v := pI (m.1 r 4 (ix x1) 2)) dX1_couldCome_12 fl_X1_80 ⟨rfl, rfl, by decide⟩ rfl ?_
  refine Wq.icmplt (tgt := 22) dX1_couldCome_15 (by decide) (fun q1 => ?_) (fun q1 => ?_)
  · refine Wq.iconst (v := 0) dX1_couldCome_22 (by decide) ?_
    exact Wq.iret dX1_couldCome_23 (⟨_, rfl, by decide⟩) ⟨rfl, rfl, bI_f (fun z => z q1), rfl⟩
  · refine Wq.iconst (v := 1) dX1_couldCome_18 (by decide) ?_
    refine Wq.goto (tgt := 23) dX1_couldCome_19 (by decide) ?_
    exact Wq.iret dX1_couldCome_23 (⟨_, rfl, by decide⟩) ⟨rfl, rfl, bI_t q1, rfl⟩
set_option maxHeartbeats 4000000 in
set_option maxRecDepth 20000 in
theorem suX1_mayMeet {g : GG} {d : Nat} {m : PM} {r : Nat} {x1 : Int32} {x2 : Int32} (h : (¬ (m.1 r 1 0 (ix 1)) = 0 → (vp_in x1 12 ∧ True))) : Wp g d MX1_mayMeet 0 [some (pO 0 r 0), some (pI x1), some (pI x2)] [] m (cI fun x m' => (bI (((m.1 r 1 0 (ix 1)) = 0) ∨ (¬ (m.1 r 4 (ix x1) 4) = x2))) = x ∧ m = m') := by
  refine Wq.few (ls' := [some (pO 0 r 0), some (pI x1), some (pI x2)]) ⟨rfl, ⟨rfl, ⟨rfl, trivial⟩⟩⟩ ?_
  refine Wq.aload_n (t := 0) (r := r) (j := 0) dX1_mayMeet_0 rfl ?_
  refine Wq.getf (v := pO 1 r 0) dX1_mayMeet_1 fl_X1_31 ⟨rfl, rfl, by decide⟩ rfl ?_
  refine Wq.iconst (v := 1) dX1_mayMeet_4 (by decide) ?_
  refine Wq.iald dX1_mayMeet_5 rfl (vp_dec rfl) ?_
  refine Wq.ifeq (tgt := 22) dX1_mayMeet_6 (by decide) (fun q1 => ?_) (fun q1 => ?_)
  · refine Wq.iconst (v := 1) dX1_mayMeet_22 (by decide) ?_
    refine Wq.goto (tgt := 27) dX1_mayMeet_23 (by decide) ?_
    exact Wq.iret dX1_mayMeet_27 (⟨_, rfl, by decide⟩) ⟨rfl, rfl, bI_t (Or.inl q1), rfl⟩
  · replace h := h q1
    refine Wq.aload_n (t := 0) (r := r) (j := 0) dX1_mayMeet_9 rfl ?_
    refine Wq.getf (v := pO 7 r 0) dX1_mayMeet_10 fl_X1_39 ⟨rfl, rfl, by decide⟩ rfl ?_
    refine Wq.iload_n (x := x1) dX1_mayMeet_13 rfl ?_
    refine Wq.aaldP dX1_mayMeet_14 h.1 ?_
    replace h := h.2
    refine Wq.getf (v := pI (m.1 r 4 (ix x1) 4)) dX1_mayMeet_15 fl_X1_132 ⟨rfl, rfl, by decide⟩ rfl ?_
    refine Wq.iload_n (x := x2) dX1_mayMeet_18 rfl ?_
    refine Wq.icmpeq (tgt := 26) dX1_mayMeet_19 (by decide) (fun q2 => ?_) (fun q2 => ?_)
    · refine Wq.iconst (v := 0) dX1_mayMeet_26 (by decide) ?_
      exact Wq.iret dX1_mayMeet_27 (⟨_, rfl, by decide⟩) ⟨rfl, rfl, bI_f (fun z => z.elim (fun z => q1 z) (fun z => z q2)), rfl⟩
    · refine Wq.iconst (v := 1) dX1_mayMeet_22 (by decide) ?_
      refine Wq.goto (tgt := 27) dX1_mayMeet_23 (by decide) ?_
      exact Wq.iret dX1_mayMeet_27 (⟨_, rfl, by decide⟩) ⟨rfl, rfl, bI_t (Or.inr q2), rfl⟩
set_option maxHeartbeats 4000000 in
set_option maxRecDepth 20000 in
theorem suX1_isInGroup {g : GG} {d : Nat} {m : PM} {x0 : Int32} {x1 : Int32} (h : True) : Wp g d MX1_isInGroup 0 [some (pI x0), some (pI x1)] [] m (cI fun x m' => (bI (((x0 >>> (x1 &&& 31)) &&& 1) = 1)) = x ∧ m = m') := by
  refine Wq.few (ls' := [some (pI x0), some (pI x1)]) ⟨rfl, ⟨rfl, trivial⟩⟩ ?_
  refine Wq.iload_n (x := x0) dX1_isInGroup_0 rfl ?_
  refine Wq.iload_n (x := x1) dX1_isInGroup_1 rfl ?_
  refine Wq.ishr dX1_isInGroup_2 ?_
  refine Wq.iconst (v := 1) dX1_isInGroup_3 (by decide) ?_
  refine Wq.iand dX1_isInGroup_4 ?_
  refine Wq.iconst (v := 1) dX1_isInGroup_5 (by decide) ?_
  refine Wq.icmpne (tgt := 13) dX1_isInGroup_6 (by decide) (fun q1 => ?_) (fun q1 => ?_)
  · refine Wq.iconst (v := 0) dX1_isInGroup_13 (by decide) ?_
    exact Wq.iret dX1_isInGroup_14 (⟨_, rfl, by decide⟩) ⟨rfl, rfl, bI_f (fun z => q1 z), rfl⟩
  · refine Wq.iconst (v := 1) dX1_isInGroup_9 (by decide) ?_
    refine Wq.goto (tgt := 14) dX1_isInGroup_10 (by decide) ?_
    exact Wq.iret dX1_isInGroup_14 (⟨_, rfl, by decide⟩) ⟨rfl, rfl, bI_t q1, rfl⟩
set_option maxHeartbeats 4000000 in
set_option maxRecDepth 20000 in
theorem suX3_comesAheadOf {g : GG} {d : Nat} {m : PM} {r j0 : Nat} {r1 j1 : Nat} (h : True) : Wp g d MX3_comesAheadOf 0 [some (pO 4 r j0), some (pO 4 r1 j1)] [] m (cI fun x m' => (bI (((m.1 r1 4 j1 5) < (m.1 r 4 j0 5)) ∨ (((m.1 r 4 j0 5) = (m.1 r1 4 j1 5)) ∧ (¬ (m.1 r1 4 j1 6) ≤ (m.1 r 4 j0 6))))) = x ∧ m = m') := by
  refine Wq.few (ls' := [some (pO 4 r j0), some (pO 4 r1 j1)]) ⟨rfl, ⟨rfl, trivial⟩⟩ ?_
  refine Wq.aload_n (t := 4) (r := r) (j := j0) dX3_comesAheadOf_0 rfl ?_
  refine Wq.getf (v := pI (m.1 r 4 j0 5)) dX3_comesAheadOf_1 fl_X3_27 ⟨rfl, rfl, by decide⟩ rfl ?_
  refine Wq.aload_n (t := 4) (r := r1) (j := j1) dX3_comesAheadOf_4 rfl ?_
  refine Wq.getf (v := pI (m.1 r1 4 j1 5)) dX3_comesAheadOf_5 fl_X3_27 ⟨rfl, rfl, by decide⟩ rfl ?_
  refine Wq.icmpgt (tgt := 33) dX3_comesAheadOf_8 (by decide) (fun q1 => ?_) (fun q1 => ?_)
  · refine Wq.iconst (v := 1) dX3_comesAheadOf_33 (by decide) ?_
    refine Wq.goto (tgt := 38) dX3_comesAheadOf_34 (by decide) ?_
    exact Wq.iret dX3_comesAheadOf_38 (⟨_, rfl, by decide⟩) ⟨rfl, rfl, bI_t (Or.inl q1), rfl⟩
  · refine Wq.aload_n (t := 4) (r := r) (j := j0) dX3_comesAheadOf_11 rfl ?_
    refine Wq.getf (v := pI (m.1 r 4 j0 5)) dX3_comesAheadOf_12 fl_X3_27 ⟨rfl, rfl, by decide⟩ rfl ?_
    refine Wq.aload_n (t := 4) (r := r1) (j := j1) dX3_comesAheadOf_15 rfl ?_
    refine Wq.getf (v := pI (m.1 r1 4 j1 5)) dX3_comesAheadOf_16 fl_X3_27 ⟨rfl, rfl, by decide⟩ rfl ?_
    refine Wq.icmpne (tgt := 37) dX3_comesAheadOf_19 (by decide) (fun q2 => ?_) (fun q2 => ?_)
    · refine Wq.iconst (v := 0) dX3_comesAheadOf_37 (by decide) ?_
      exact Wq.iret dX3_comesAheadOf_38 (⟨_, rfl, by decide⟩) ⟨rfl, rfl, bI_f (fun z => z.elim (fun z => q1 z) (fun z => q2 z.1)), rfl⟩
    · refine Wq.aload_n (t := 4) (r := r) (j := j0) dX3_comesAheadOf_22 rfl ?_
      refine Wq.getf (v := pI (m.1 r 4 j0 6)) dX3_comesAheadOf_23 fl_X3_30 ⟨rfl, rfl, by decide⟩ rfl ?_
      refine Wq.aload_n (t := 4) (r := r1) (j := j1) dX3_comesAheadOf_26 rfl ?_
      refine Wq.getf (v := pI (m.1 r1 4 j1 6)) dX3_comesAheadOf_27 fl_X3_30 ⟨rfl, rfl, by decide⟩ rfl ?_
      refine Wq.icmpge (tgt := 37) dX3_comesAheadOf_30 (by decide) (fun q3 => ?_) (fun q3 => ?_)
      · refine Wq.iconst (v := 0) dX3_comesAheadOf_37 (by decide) ?_
        exact Wq.iret dX3_comesAheadOf_38 (⟨_, rfl, by decide⟩) ⟨rfl, rfl, bI_f (fun z => z.elim (fun z => q1 z) (fun z => (fun z => z q3) z.2)), rfl⟩
      · refine Wq.iconst (v := 1) dX3_comesAheadOf_33 (by decide) ?_
        refine Wq.goto (tgt := 38) dX3_comesAheadOf_34 (by decide) ?_
        exact Wq.iret dX3_comesAheadOf_38 (⟨_, rfl, by decide⟩) ⟨rfl, rfl, bI_t (Or.inr ⟨q2, q3⟩), rfl⟩
set_option maxHeartbeats 4000000 in
set_option maxRecDepth 20000 in
theorem suJ9_min_7cf53 {g : GG} {d : Nat} {m : PM} {x0 : Int32} {x1 : Int32} (h : True) : Wp g d MJ9_min_7cf53 0 [some (pI x0), some (pI x1)] [] m (cI fun x m' => ((if x1 < x0 then x1 else x0) : Int32) = x ∧ m = m') := by
  refine Wq.few (ls' := [some (pI x0), some (pI x1)]) ⟨rfl, ⟨rfl, trivial⟩⟩ ?_
  refine Wq.iload_n (x := x0) dJ9_min_7cf53_0 rfl ?_
  refine Wq.iload_n (x := x1) dJ9_min_7cf53_1 rfl ?_
  refine Wq.icmpgt (tgt := 9) dJ9_min_7cf53_2 (by decide) (fun q1 => ?_) (fun q1 => ?_)
  · refine Wq.iload_n (x := x1) dJ9_min_7cf53_9 rfl ?_
    exact Wq.iret dJ9_min_7cf53_10 (⟨_, rfl, rfl⟩) ⟨rfl, rfl, (by rw [if_pos q1]), rfl⟩
  · refine Wq.iload_n (x := x0) dJ9_min_7cf53_5 rfl ?_
    refine Wq.goto (tgt := 10) dJ9_min_7cf53_6 (by decide) ?_
    exact Wq.iret dJ9_min_7cf53_10 (⟨_, rfl, rfl⟩) ⟨rfl, rfl, (by rw [if_neg q1]), rfl⟩
set_option maxHeartbeats 4000000 in
set_option maxRecDepth 20000 in
theorem suX4_isSetting {g : GG} {d : Nat} {m : PM} {x0 : Int32} (h : True) : Wp g (d + 1) MX4_isSetting 0 [some (pI x0)] [] m (cI fun x m' => (bI ((¬ x0 < (0 : Int32)) ∧ (¬ (4 - 1) < x0))) = x ∧ m = m') := by
  refine Wq.few (ls' := [some (pI x0)]) ⟨rfl, trivial⟩ ?_
  refine Wq.iload_n (x := x0) dX4_isSetting_0 rfl ?_
  refine Wq.iconst (v := 0) dX4_isSetting_1 (by decide) ?_
  refine Wq.getsF dX4_isSetting_2 gs_X4_250 ?_
  refine Wq.lenF dX4_isSetting_5 ?_
  refine Wq.iconst (v := 1) dX4_isSetting_6 (by decide) ?_
  refine Wq.isub dX4_isSetting_7 ?_
  refine Wq.callSI (As := [pI x0, pI 0, pI (4 - 1)]) dX4_isSetting_8 fX4_isFromTo ml_X4_90 rfl (Nat.le_of_ble_eq_true rfl) (Nat.le_of_ble_eq_true rfl) (suX4_isFromTo trivial) (fun x1 m9 e9 => ?_)
  obtain ⟨rfl, rfl⟩ := e9
  exact Wq.iret dX4_isSetting_11 (⟨_, rfl, bI_narrow _⟩) ⟨rfl, rfl, rfl, rfl⟩
set_option maxHeartbeats 4000000 in
set_option maxRecDepth 20000 in
theorem suX4_partOfCell {g : GG} {d : Nat} {m : PM} {x0 : Int32} {x1 : Int32} (h : True) : Wp g (d + 1) MX4_partOfCell 0 [some (pI x0), some (pI x1)] [] m (cI fun x m' => ((if ¬ x0 = (-1) then (if x1 = 0 then (x0 / 16) else (if x1 = 1 then (irm (x0 / 4) 4) else (irm x0 4))) else (-1)) : Int32) = x ∧ m = m') := by
  refine Wq.few (ls' := [some (pI x0), some (pI x1)]) ⟨rfl, ⟨rfl, trivial⟩⟩ ?_
  refine Wq.iload_n (x := x0) dX4_partOfCell_0 rfl ?_
  refine Wq.iconst (v := (-1)) dX4_partOfCell_1 (by decide) ?_
  refine Wq.icmpne (tgt := 7) dX4_partOfCell_2 (by decide) (fun q1 => ?_) (fun q1 => ?_)
  · refine Wq.iload_n (x := x1) dX4_partOfCell_7 rfl ?_
    by_cases q2 : x1 = 0
    · refine Wq.lookup (tgt := 36) dX4_partOfCell_8 (by decide) (by first | (rw [q2]; done) | (rw [q2]; rfl)) (by decide) ?_
      refine Wq.iload_n (x := x0) dX4_partOfCell_36 rfl ?_
      refine Wq.callSI (As := [pI x0]) dX4_partOfCell_37 fX4_daysTo ml_X4_253 rfl (Nat.le_of_ble_eq_true rfl) (Nat.le_of_ble_eq_true rfl) (suX4_daysTo trivial) (fun x3 m9 e9 => ?_)
      obtain ⟨rfl, rfl⟩ := e9
      exact Wq.iret dX4_partOfCell_40 (⟨_, rfl, rfl⟩) ⟨rfl, rfl, (by rw [if_pos q1, if_pos q2]), rfl⟩
    · by_cases q4 : x1 = 1
      · refine Wq.lookup (tgt := 41) dX4_partOfCell_8 (by decide) (by first | (rw [q4]; done) | (rw [q4]; rfl)) (by decide) ?_
        refine Wq.iload_n (x := x0) dX4_partOfCell_41 rfl ?_
        refine Wq.iconst (v := 4) dX4_partOfCell_42 (by decide) ?_
        refine Wq.idiv dX4_partOfCell_43 (by decide) ?_
        refine Wq.iconst (v := 4) dX4_partOfCell_44 (by decide) ?_
        refine Wq.irem dX4_partOfCell_45 (by decide) ?_
        exact Wq.iret dX4_partOfCell_46 (⟨_, rfl, rfl⟩) ⟨rfl, rfl, (by rw [if_pos q1, if_neg q2, if_pos q4]), rfl⟩
      · refine Wq.lookup (tgt := 47) (off := 39) dX4_partOfCell_8 (by decide) (by show Op.lookupswitch.offset [(0, 28), (1, 33)] _ _ = _; rw [lv_osw (a := 0) q2 (by decide), lv_osw (a := 1) q4 (by decide)]; rfl) (by decide) ?_
        refine Wq.iload_n (x := x0) dX4_partOfCell_47 rfl ?_
        refine Wq.callSI (As := [pI x0]) dX4_partOfCell_48 fX4_examinerAt ml_X4_256 rfl (Nat.le_of_ble_eq_true rfl) (Nat.le_of_ble_eq_true rfl) (suX4_examinerAt trivial) (fun x5 m9 e9 => ?_)
        obtain ⟨rfl, rfl⟩ := e9
        exact Wq.iret dX4_partOfCell_51 (⟨_, rfl, rfl⟩) ⟨rfl, rfl, (by rw [if_pos q1, if_neg q2, if_neg q4]), rfl⟩
  · refine Wq.iconst (v := (-1)) dX4_partOfCell_5 (by decide) ?_
    exact Wq.iret dX4_partOfCell_6 (⟨_, rfl, rfl⟩) ⟨rfl, rfl, (by rw [if_neg (fun z => z q1)]), rfl⟩
