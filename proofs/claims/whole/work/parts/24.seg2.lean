/-! SEGMENTS: rows from a method's entry, and from each loop's head, to the next ones (laid by wip/whole/gen/gen.py) -/
set_option maxHeartbeats 4000000 in
set_option maxRecDepth 20000 in
theorem sgX4_clearBuffer {g : GG} {d : Nat} {c n : Nat} {m : PM} {Q : Ou → PM → Nat → Nat → Prop}  (h : Q (.inl (some (pI (m.1 8 12 0 1)))) (setI m 12 8 0 1 0) c n) : Wq g d MX4_clearBuffer c n 0 [some (pO 10 8 0)] [] m Q := by
  refine Wq.few (ls' := [some (pO 10 8 0), none]) ⟨rfl, trivial⟩ ?_
  refine Wq.aload_n (t := 10) (r := 8) (j := 0) dX4_clearBuffer_0 rfl ?_
  refine Wq.getf (v := pO 12 8 0) dX4_clearBuffer_1 fl_X4_30 ⟨rfl, rfl, by decide⟩ rfl ?_
  refine Wq.getf (v := pI (m.1 8 12 0 1)) dX4_clearBuffer_4 fl_X4_146 ⟨rfl, rfl, by decide⟩ rfl ?_
  refine Wq.istore_n (ls2 := [some (pO 10 8 0), some (pI (m.1 8 12 0 1))]) dX4_clearBuffer_7 (by decide) rfl ?_
  refine Wq.aload_n (t := 10) (r := 8) (j := 0) dX4_clearBuffer_8 rfl ?_
  refine Wq.getf (v := pO 12 8 0) dX4_clearBuffer_9 fl_X4_30 ⟨rfl, rfl, by decide⟩ rfl ?_
  refine Wq.iconst (v := 0) dX4_clearBuffer_12 (by decide) ?_
  refine Wq.putI dX4_clearBuffer_13 fw_X4_146 ⟨rfl, rfl, by decide⟩ ⟨rfl, by decide, by decide⟩ ⟨rfl, rfl⟩ ?_
  refine Wq.iload_n (x := (m.1 8 12 0 1)) dX4_clearBuffer_16 rfl ?_
  exact Wq.iret dX4_clearBuffer_17 (⟨_, rfl, rfl⟩) h
set_option maxHeartbeats 4000000 in
set_option maxRecDepth 20000 in
theorem sgX4_dropOldestSave {g : GG} {d : Nat} {c n : Nat} {m : PM} {Q : Ou → PM → Nat → Nat → Prop}  (h : ((ix (m.1 8 11 0 (ix 0))) < 8 ∧ Wq g d MX4_dropOldestSave c n 9 [some (pO 10 8 0), some (pO 0 (ix (m.1 8 11 0 (ix 0))) 0), some (pI 1)] [] m Q)) : Wq g d MX4_dropOldestSave c n 0 [some (pO 10 8 0)] [] m Q := by
  refine Wq.few (ls' := [some (pO 10 8 0), none, none]) ⟨rfl, trivial⟩ ?_
  refine Wq.aload_n (t := 10) (r := 8) (j := 0) dX4_dropOldestSave_0 rfl ?_
  refine Wq.getf (v := pO 11 8 0) dX4_dropOldestSave_1 fl_X4_19 ⟨rfl, rfl, by decide⟩ rfl ?_
  refine Wq.iconst (v := 0) dX4_dropOldestSave_4 (by decide) ?_
  refine Wq.aaldS dX4_dropOldestSave_5 (vp_dec rfl) h.1 ?_
  replace h := h.2
  refine Wq.astore_n (ls2 := [some (pO 10 8 0), some (pO 0 (ix (m.1 8 11 0 (ix 0))) 0), none]) dX4_dropOldestSave_6 (by decide) rfl ?_
  refine Wq.iconst (v := 1) dX4_dropOldestSave_7 (by decide) ?_
  refine Wq.istore_n (ls2 := [some (pO 10 8 0), some (pO 0 (ix (m.1 8 11 0 (ix 0))) 0), some (pI 1)]) dX4_dropOldestSave_8 (by decide) rfl ?_
  exact h
set_option maxHeartbeats 4000000 in
set_option maxRecDepth 20000 in
theorem sgX4_dropOldestSave_9 {g : GG} {d : Nat} {c n : Nat} {m : PM} {Q : Ou → PM → Nat → Nat → Prop} {r1 : Nat} {x2 : Int32} (h : ((6 ≤ x2 → (vp_in (6 - 1) 6 ∧ Q (.inl none) (setI (setI m 11 8 0 (ix (6 - 1)) (nI r1)) 10 8 0 3 (6 - 1)) c n)) ∧ (¬ 6 ≤ x2 → (vp_in x2 6 ∧ ((ix (m.1 8 11 0 (ix x2))) < 8 ∧ (vp_in (x2 - 1) 6 ∧ Wq g d MX4_dropOldestSave c n 9 [some (pO 10 8 0), some (pO 0 r1 0), some (pI (x2 + 1))] [] (setI m 11 8 0 (ix (x2 - 1)) (nI (ix (m.1 8 11 0 (ix x2))))) Q)))))) : Wq g d MX4_dropOldestSave c n 9 [some (pO 10 8 0), some (pO 0 r1 0), some (pI x2)] [] m Q := by
  refine Wq.iload_n (x := x2) dX4_dropOldestSave_9 rfl ?_
  refine Wq.aload_n (t := 10) (r := 8) (j := 0) dX4_dropOldestSave_10 rfl ?_
  refine Wq.getf (v := pO 11 8 0) dX4_dropOldestSave_11 fl_X4_19 ⟨rfl, rfl, by decide⟩ rfl ?_
  refine Wq.alen (v := 6) dX4_dropOldestSave_14 rfl (by decide) rfl ?_
  refine Wq.icmpge (tgt := 38) dX4_dropOldestSave_15 (by decide) (fun q1 => ?_) (fun q1 => ?_)
  · replace h := h.1 q1
    refine Wq.aload_n (t := 10) (r := 8) (j := 0) dX4_dropOldestSave_38 rfl ?_
    refine Wq.getf (v := pO 11 8 0) dX4_dropOldestSave_39 fl_X4_19 ⟨rfl, rfl, by decide⟩ rfl ?_
    refine Wq.aload_n (t := 10) (r := 8) (j := 0) dX4_dropOldestSave_42 rfl ?_
    refine Wq.getf (v := pO 11 8 0) dX4_dropOldestSave_43 fl_X4_19 ⟨rfl, rfl, by decide⟩ rfl ?_
    refine Wq.alen (v := 6) dX4_dropOldestSave_46 rfl (by decide) rfl ?_
    refine Wq.iconst (v := 1) dX4_dropOldestSave_47 (by decide) ?_
    refine Wq.isub dX4_dropOldestSave_48 ?_
    refine Wq.aload_n (t := 0) (r := r1) (j := 0) dX4_dropOldestSave_49 rfl ?_
    refine Wq.aast dX4_dropOldestSave_50 h.1 ?_
    replace h := h.2
    refine Wq.aload_n (t := 10) (r := 8) (j := 0) dX4_dropOldestSave_51 rfl ?_
    refine Wq.aload_n (t := 10) (r := 8) (j := 0) dX4_dropOldestSave_52 rfl ?_
    refine Wq.getf (v := pO 11 8 0) dX4_dropOldestSave_53 fl_X4_19 ⟨rfl, rfl, by decide⟩ rfl ?_
    refine Wq.alen (v := 6) dX4_dropOldestSave_56 rfl (by decide) rfl ?_
    refine Wq.iconst (v := 1) dX4_dropOldestSave_57 (by decide) ?_
    refine Wq.isub dX4_dropOldestSave_58 ?_
    refine Wq.putI dX4_dropOldestSave_59 fw_X4_23 ⟨rfl, rfl, by decide⟩ ⟨rfl, by decide, by decide⟩ ⟨rfl, rfl⟩ ?_
    exact Wq.vret dX4_dropOldestSave_62 rfl h
  · replace h := h.2 q1
    refine Wq.aload_n (t := 10) (r := 8) (j := 0) dX4_dropOldestSave_18 rfl ?_
    refine Wq.getf (v := pO 11 8 0) dX4_dropOldestSave_19 fl_X4_19 ⟨rfl, rfl, by decide⟩ rfl ?_
    refine Wq.iload_n (x := x2) dX4_dropOldestSave_22 rfl ?_
    refine Wq.iconst (v := 1) dX4_dropOldestSave_23 (by decide) ?_
    refine Wq.isub dX4_dropOldestSave_24 ?_
    refine Wq.aload_n (t := 10) (r := 8) (j := 0) dX4_dropOldestSave_25 rfl ?_
    refine Wq.getf (v := pO 11 8 0) dX4_dropOldestSave_26 fl_X4_19 ⟨rfl, rfl, by decide⟩ rfl ?_
    refine Wq.iload_n (x := x2) dX4_dropOldestSave_29 rfl ?_
    refine Wq.aaldS dX4_dropOldestSave_30 h.1 h.2.1 ?_
    replace h := h.2.2
    refine Wq.aast dX4_dropOldestSave_31 h.1 ?_
    replace h := h.2
    refine Wq.iinc (x := x2) (ls2 := [some (pO 10 8 0), some (pO 0 r1 0), some (pI (x2 + 1))]) dX4_dropOldestSave_32 rfl (by decide) rfl ?_
    refine Wq.goto (tgt := 9) dX4_dropOldestSave_35 (by decide) ?_
    exact h
set_option maxHeartbeats 4000000 in
set_option maxRecDepth 20000 in
theorem sgX4_bitsOf {g : GG} {d : Nat} {c n : Nat} {m : PM} {Q : Ou → PM → Nat → Nat → Prop} {x0 : UInt64} (h : ((0 < (Op.cmpValue (FP.dcmp x0 FP.dconst0) CmpOp.g) → Wq g d MX4_bitsOf c n 15 [none, none, some (pD x0), none, some (pL 1023), none, none, none] [] m Q) ∧ (¬ 0 < (Op.cmpValue (FP.dcmp x0 FP.dconst0) CmpOp.g) → Q (.inl (some (pL 0))) m c n))) : Wq g d MX4_bitsOf c n 0 [some (pD x0), none] [] m Q := by
  refine Wq.few (ls' := [some (pD x0), none, none, none, none, none, none, none]) ⟨rfl, trivial⟩ ?_
  refine Wq.dload_n (x := x0) dX4_bitsOf_0 rfl ?_
  refine Wq.dconst0 dX4_bitsOf_1 ?_
  refine Wq.dcmp dX4_bitsOf_2 ?_
  refine Wq.ifgt (tgt := 8) dX4_bitsOf_3 (by decide) (fun q1 => ?_) (fun q1 => ?_)
  · replace h := h.1 q1
    refine Wq.dload_n (x := x0) dX4_bitsOf_8 rfl ?_
    refine Wq.dstore_n (ls2 := [some (pD x0), none, some (pD x0), none, none, none, none, none]) dX4_bitsOf_9 (by decide) rfl ?_
    refine Wq.ldc2 dX4_bitsOf_10 lc_X4_295 ?_
    refine Wq.lstore (ls2 := [some (pD x0), none, some (pD x0), none, some (pL 1023), none, none, none]) dX4_bitsOf_13 (by decide) rfl ?_
    refine Wq.few (ls' := [none, none, some (pD x0), none, some (pL 1023), none, none, none]) ⟨rfl, ⟨rfl, trivial⟩⟩ ?_
    exact h
  · replace h := h.2 q1
    refine Wq.lconst (v := 0) dX4_bitsOf_6 (by decide) ?_
    exact Wq.lret dX4_bitsOf_7 rfl h
set_option maxHeartbeats 4000000 in
set_option maxRecDepth 20000 in
theorem sgX4_bitsOf_15 {g : GG} {d : Nat} {c n : Nat} {m : PM} {Q : Ou → PM → Nat → Nat → Prop} {x2 : UInt64} {x4 : Int64} (h : ((0 ≤ (Op.cmpValue (FP.dcmp x2 FP.dconst1) CmpOp.g) → (vf_n64 (FP.dsub x2 FP.dconst1) ∧ (vf_n64 (FP.dmul (FP.dsub x2 FP.dconst1) 4841369599423283200) ∧ Q (.inl (some (pL ((x4 <<< (Int32.toInt64 52 &&& 63)) + (FP.d2l (FP.dmul (FP.dsub x2 FP.dconst1) 4841369599423283200)))))) m c n))) ∧ (¬ 0 ≤ (Op.cmpValue (FP.dcmp x2 FP.dconst1) CmpOp.g) → (((lg_cmp x4 1) ≤ 0 → (vf_n64 (FP.dsub x2 FP.dconst1) ∧ (vf_n64 (FP.dmul (FP.dsub x2 FP.dconst1) 4841369599423283200) ∧ Q (.inl (some (pL ((x4 <<< (Int32.toInt64 52 &&& 63)) + (FP.d2l (FP.dmul (FP.dsub x2 FP.dconst1) 4841369599423283200)))))) m c n))) ∧ (¬ (lg_cmp x4 1) ≤ 0 → (vf_n64 (FP.dmul x2 4611686018427387904) ∧ Wq g d MX4_bitsOf c n 15 [none, none, some (pD (FP.dmul x2 4611686018427387904)), none, some (pL (x4 - 1)), none, none, none] [] m Q)))))) : Wq g d MX4_bitsOf c n 15 [none, none, some (pD x2), none, some (pL x4), none, none, none] [] m Q := by
  refine Wq.dload_n (x := x2) dX4_bitsOf_15 rfl ?_
  refine Wq.dconst1 dX4_bitsOf_16 ?_
  refine Wq.dcmp dX4_bitsOf_17 ?_
  refine Wq.ifge (tgt := 43) dX4_bitsOf_18 (by decide) (fun q1 => ?_) (fun q1 => ?_)
  · replace h := h.1 q1
    refine Wq.dload_n (x := x2) dX4_bitsOf_43 rfl ?_
    refine Wq.dconst1 dX4_bitsOf_44 ?_
    refine Wq.dsub dX4_bitsOf_45 h.1 ?_
    replace h := h.2
    refine Wq.ldc2d dX4_bitsOf_46 lc_X4_299 ?_
    refine Wq.dmul dX4_bitsOf_49 h.1 ?_
    replace h := h.2
    refine Wq.d2l dX4_bitsOf_50 ?_
    refine Wq.lstore (ls2 := [none, none, some (pD x2), none, some (pL x4), none, some (pL (FP.d2l (FP.dmul (FP.dsub x2 FP.dconst1) 4841369599423283200))), none]) dX4_bitsOf_51 (by decide) rfl ?_
    refine Wq.lload (x := x4) dX4_bitsOf_53 rfl ?_
    refine Wq.bipush (v := 52) dX4_bitsOf_55 (by decide) ?_
    refine Wq.lshl dX4_bitsOf_57 ?_
    refine Wq.lload (x := (FP.d2l (FP.dmul (FP.dsub x2 FP.dconst1) 4841369599423283200))) dX4_bitsOf_58 rfl ?_
    refine Wq.ladd dX4_bitsOf_60 ?_
    exact Wq.lret dX4_bitsOf_61 rfl h
  · replace h := h.2 q1
    refine Wq.lload (x := x4) dX4_bitsOf_21 rfl ?_
    refine Wq.lconst (v := 1) dX4_bitsOf_23 (by decide) ?_
    refine Wq.lcmp dX4_bitsOf_24 ?_
    refine Wq.ifle (tgt := 43) dX4_bitsOf_25 (by decide) (fun q2 => ?_) (fun q2 => ?_)
    · replace h := h.1 q2
      refine Wq.dload_n (x := x2) dX4_bitsOf_43 rfl ?_
      refine Wq.dconst1 dX4_bitsOf_44 ?_
      refine Wq.dsub dX4_bitsOf_45 h.1 ?_
      replace h := h.2
      refine Wq.ldc2d dX4_bitsOf_46 lc_X4_299 ?_
      refine Wq.dmul dX4_bitsOf_49 h.1 ?_
      replace h := h.2
      refine Wq.d2l dX4_bitsOf_50 ?_
      refine Wq.lstore (ls2 := [none, none, some (pD x2), none, some (pL x4), none, some (pL (FP.d2l (FP.dmul (FP.dsub x2 FP.dconst1) 4841369599423283200))), none]) dX4_bitsOf_51 (by decide) rfl ?_
      refine Wq.lload (x := x4) dX4_bitsOf_53 rfl ?_
      refine Wq.bipush (v := 52) dX4_bitsOf_55 (by decide) ?_
      refine Wq.lshl dX4_bitsOf_57 ?_
      refine Wq.lload (x := (FP.d2l (FP.dmul (FP.dsub x2 FP.dconst1) 4841369599423283200))) dX4_bitsOf_58 rfl ?_
      refine Wq.ladd dX4_bitsOf_60 ?_
      exact Wq.lret dX4_bitsOf_61 rfl h
    · replace h := h.2 q2
      refine Wq.dload_n (x := x2) dX4_bitsOf_28 rfl ?_
      refine Wq.ldc2d dX4_bitsOf_29 lc_X4_297 ?_
      refine Wq.dmul dX4_bitsOf_32 h.1 ?_
      replace h := h.2
      refine Wq.dstore_n (ls2 := [none, none, some (pD (FP.dmul x2 4611686018427387904)), none, some (pL x4), none, none, none]) dX4_bitsOf_33 (by decide) rfl ?_
      refine Wq.lload (x := x4) dX4_bitsOf_34 rfl ?_
      refine Wq.lconst (v := 1) dX4_bitsOf_36 (by decide) ?_
      refine Wq.lsub dX4_bitsOf_37 ?_
      refine Wq.lstore (ls2 := [none, none, some (pD (FP.dmul x2 4611686018427387904)), none, some (pL (x4 - 1)), none, none, none]) dX4_bitsOf_38 (by decide) rfl ?_
      refine Wq.goto (tgt := 15) dX4_bitsOf_40 (by decide) ?_
      exact h
set_option maxHeartbeats 4000000 in
set_option maxRecDepth 20000 in
theorem sgX4_passedShare {g : GG} {d : Nat} {c n : Nat} {m : PM} {Q : Ou → PM → Nat → Nat → Prop}  (h : Wp g (d + 1) MX1_testsSoFar 0 [some (pO 0 0 0)] [] m (cI fun r1 m2 => ((¬ r1 = 0 → Wp g (d + 1) MX1_passedSoFar 0 [some (pO 0 0 0)] [] m2 (cI fun r4 m5 => (vf_n64 (FP.ddiv (FP.i2d r4) (FP.i2d r1)) ∧ Q (.inl (some (pD (FP.ddiv (FP.i2d r4) (FP.i2d r1))))) m5 c n))) ∧ (r1 = 0 → Q (.inl (some (pD FP.dconst1))) m2 c n)))) : Wq g (d + 2) MX4_passedShare c n 0 [some (pO 10 8 0)] [] m Q := by
  refine Wq.few (ls' := [some (pO 10 8 0), none]) ⟨rfl, trivial⟩ ?_
  refine Wq.aload_n (t := 10) (r := 8) (j := 0) dX4_passedShare_0 rfl ?_
  refine Wq.getf (v := pO 0 0 0) dX4_passedShare_1 fl_X4_12 ⟨rfl, rfl, by decide⟩ rfl ?_
  refine Wq.callVI (As := []) dX4_passedShare_4 fX1_testsSoFar ml_X4_214 rfl (by decide) rfl (Nat.le_of_ble_eq_true rfl) (Nat.le_of_ble_eq_true rfl) h (fun r1 m2 h => ?_)
  refine Wq.istore_n (ls2 := [some (pO 10 8 0), some (pI r1)]) dX4_passedShare_7 (by decide) rfl ?_
  refine Wq.iload_n (x := r1) dX4_passedShare_8 rfl ?_
  refine Wq.ifne (tgt := 16) dX4_passedShare_9 (by decide) (fun q3 => ?_) (fun q3 => ?_)
  · replace h := h.1 q3
    refine Wq.aload_n (t := 10) (r := 8) (j := 0) dX4_passedShare_16 rfl ?_
    refine Wq.getf (v := pO 0 0 0) dX4_passedShare_17 fl_X4_12 ⟨rfl, rfl, by decide⟩ rfl ?_
    refine Wq.callVI (As := []) dX4_passedShare_20 fX1_passedSoFar ml_X4_217 rfl (by decide) rfl (Nat.le_of_ble_eq_true rfl) (Nat.le_of_ble_eq_true rfl) h (fun r4 m5 h => ?_)
    refine Wq.i2d dX4_passedShare_23 ?_
    refine Wq.iload_n (x := r1) dX4_passedShare_24 rfl ?_
    refine Wq.i2d dX4_passedShare_25 ?_
    refine Wq.ddiv dX4_passedShare_26 h.1 ?_
    replace h := h.2
    exact Wq.dret dX4_passedShare_27 rfl h
  · replace h := h.2 q3
    refine Wq.dconst1 dX4_passedShare_12 ?_
    refine Wq.goto (tgt := 27) dX4_passedShare_13 (by decide) ?_
    exact Wq.dret dX4_passedShare_27 rfl h
set_option maxHeartbeats 4000000 in
set_option maxRecDepth 20000 in
theorem sgX4_save {g : GG} {d : Nat} {c n : Nat} {m : PM} {Q : Ou → PM → Nat → Nat → Prop}  (h : (((m.1 8 10 0 3) < 6 → (vp_in (m.1 8 10 0 3) 6 ∧ ((ix (m.1 8 11 0 (ix (m.1 8 10 0 3)))) < 8 ∧ Wp g (d + 2) MX1_copyFrom 0 [some (pO 0 (ix (m.1 8 11 0 (ix (m.1 8 10 0 3)))) 0), some (pO 0 0 0)] [] m (cV fun m3 => Q (.inl none) (setI m3 10 8 0 3 ((m3.1 8 10 0 3) + 1)) c n)))) ∧ (¬ (m.1 8 10 0 3) < 6 → Wp g (d + 2) MX4_dropOldestSave 0 [some (pO 10 8 0)] [] m (cV fun m5 => (vp_in (m5.1 8 10 0 3) 6 ∧ ((ix (m5.1 8 11 0 (ix (m5.1 8 10 0 3)))) < 8 ∧ Wp g (d + 2) MX1_copyFrom 0 [some (pO 0 (ix (m5.1 8 11 0 (ix (m5.1 8 10 0 3)))) 0), some (pO 0 0 0)] [] m5 (cV fun m7 => Q (.inl none) (setI m7 10 8 0 3 ((m7.1 8 10 0 3) + 1)) c n))))))) : Wq g (d + 3) MX4_save c n 0 [some (pO 10 8 0)] [] m Q := by
  refine Wq.few (ls' := [some (pO 10 8 0)]) ⟨rfl, trivial⟩ ?_
  refine Wq.aload_n (t := 10) (r := 8) (j := 0) dX4_save_0 rfl ?_
  refine Wq.getf (v := pI (m.1 8 10 0 3)) dX4_save_1 fl_X4_23 ⟨rfl, rfl, by decide⟩ rfl ?_
  refine Wq.aload_n (t := 10) (r := 8) (j := 0) dX4_save_4 rfl ?_
  refine Wq.getf (v := pO 11 8 0) dX4_save_5 fl_X4_19 ⟨rfl, rfl, by decide⟩ rfl ?_
  refine Wq.alen (v := 6) dX4_save_8 rfl (by decide) rfl ?_
  refine Wq.icmplt (tgt := 16) dX4_save_9 (by decide) (fun q1 => ?_) (fun q1 => ?_)
  · replace h := h.1 q1
    refine Wq.aload_n (t := 10) (r := 8) (j := 0) dX4_save_16 rfl ?_
    refine Wq.getf (v := pO 11 8 0) dX4_save_17 fl_X4_19 ⟨rfl, rfl, by decide⟩ rfl ?_
    refine Wq.aload_n (t := 10) (r := 8) (j := 0) dX4_save_20 rfl ?_
    refine Wq.getf (v := pI (m.1 8 10 0 3)) dX4_save_21 fl_X4_23 ⟨rfl, rfl, by decide⟩ rfl ?_
    refine Wq.aaldS dX4_save_24 h.1 h.2.1 ?_
    replace h := h.2.2
    refine Wq.aload_n (t := 10) (r := 8) (j := 0) dX4_save_25 rfl ?_
    refine Wq.getf (v := pO 0 0 0) dX4_save_26 fl_X4_12 ⟨rfl, rfl, by decide⟩ rfl ?_
    refine Wq.callVV (As := [pO 0 0 0]) dX4_save_29 fX1_copyFrom ml_X4_165 rfl (by decide) rfl (Nat.le_of_ble_eq_true rfl) (Nat.le_of_ble_eq_true rfl) h (fun m3 h => ?_)
    refine Wq.aload_n (t := 10) (r := 8) (j := 0) dX4_save_32 rfl ?_
    refine Wq.dup dX4_save_33 rfl ?_
    refine Wq.getf (v := pI (m3.1 8 10 0 3)) dX4_save_34 fl_X4_23 ⟨rfl, rfl, by decide⟩ rfl ?_
    refine Wq.iconst (v := 1) dX4_save_37 (by decide) ?_
    refine Wq.iadd dX4_save_38 ?_
    refine Wq.putI dX4_save_39 fw_X4_23 ⟨rfl, rfl, by decide⟩ ⟨rfl, by decide, by decide⟩ ⟨rfl, rfl⟩ ?_
    exact Wq.vret dX4_save_42 rfl h
  · replace h := h.2 q1
    refine Wq.aload_n (t := 10) (r := 8) (j := 0) dX4_save_12 rfl ?_
    refine Wq.callVV (As := []) dX4_save_13 fX4_dropOldestSave ml_X4_259 rfl (by decide) rfl (Nat.le_of_ble_eq_true rfl) (Nat.le_of_ble_eq_true rfl) h (fun m5 h => ?_)
    refine Wq.aload_n (t := 10) (r := 8) (j := 0) dX4_save_16 rfl ?_
    refine Wq.getf (v := pO 11 8 0) dX4_save_17 fl_X4_19 ⟨rfl, rfl, by decide⟩ rfl ?_
    refine Wq.aload_n (t := 10) (r := 8) (j := 0) dX4_save_20 rfl ?_
    refine Wq.getf (v := pI (m5.1 8 10 0 3)) dX4_save_21 fl_X4_23 ⟨rfl, rfl, by decide⟩ rfl ?_
    refine Wq.aaldS dX4_save_24 h.1 h.2.1 ?_
    replace h := h.2.2
    refine Wq.aload_n (t := 10) (r := 8) (j := 0) dX4_save_25 rfl ?_
    refine Wq.getf (v := pO 0 0 0) dX4_save_26 fl_X4_12 ⟨rfl, rfl, by decide⟩ rfl ?_
    refine Wq.callVV (As := [pO 0 0 0]) dX4_save_29 fX1_copyFrom ml_X4_165 rfl (by decide) rfl (Nat.le_of_ble_eq_true rfl) (Nat.le_of_ble_eq_true rfl) h (fun m7 h => ?_)
    refine Wq.aload_n (t := 10) (r := 8) (j := 0) dX4_save_32 rfl ?_
    refine Wq.dup dX4_save_33 rfl ?_
    refine Wq.getf (v := pI (m7.1 8 10 0 3)) dX4_save_34 fl_X4_23 ⟨rfl, rfl, by decide⟩ rfl ?_
    refine Wq.iconst (v := 1) dX4_save_37 (by decide) ?_
    refine Wq.iadd dX4_save_38 ?_
    refine Wq.putI dX4_save_39 fw_X4_23 ⟨rfl, rfl, by decide⟩ ⟨rfl, by decide, by decide⟩ ⟨rfl, rfl⟩ ?_
    exact Wq.vret dX4_save_42 rfl h
set_option maxHeartbeats 4000000 in
set_option maxRecDepth 20000 in
theorem sgX4_carryOutTest {g : GG} {d : Nat} {c n : Nat} {m : PM} {Q : Ou → PM → Nat → Nat → Prop} {x1 : Int32} {x2 : Int32} (h : ((¬ ((¬ x1 < 0) ∧ (¬ (m.1 0 0 0 2) ≤ x1)) → Q (.inl (some (pI 0))) m c n) ∧ ((¬ x1 < 0) ∧ (¬ (m.1 0 0 0 2) ≤ x1) → Wp g (d + 2) MX1_mayBeTested 0 [some (pO 0 0 0), some (pI x1)] [] m (cI fun r2 m3 => ((r2 = 0 → Q (.inl (some (pI 0))) m3 c n) ∧ (¬ r2 = 0 → Wp g (d + 2) MX1_holdTest 0 [some (pO 0 0 0), some (pI x1), some (pI x2)] [] m3 (cI fun r5 m6 => ((r5 < 0 → Q (.inl (some (pI 0))) m6 c n) ∧ (¬ r5 < 0 → Q (.inl (some (pI 1))) m6 c n))))))))) : Wq g (d + 3) MX4_carryOutTest c n 0 [some (pO 10 8 0), some (pI x1), some (pI x2)] [] m Q := by
  refine Wq.few (ls' := [some (pO 10 8 0), some (pI x1), some (pI x2)]) ⟨rfl, ⟨rfl, ⟨rfl, trivial⟩⟩⟩ ?_
  refine Wq.aload_n (t := 10) (r := 8) (j := 0) dX4_carryOutTest_0 rfl ?_
  refine Wq.getf (v := pO 0 0 0) dX4_carryOutTest_1 fl_X4_12 ⟨rfl, rfl, by decide⟩ rfl ?_
  refine Wq.iload_n (x := x1) dX4_carryOutTest_4 rfl ?_
  refine Wq.callVI (As := [pI x1]) dX4_carryOutTest_5 fX1_hasPupil ml_X4_59 rfl (by decide) rfl (Nat.le_of_ble_eq_true rfl) (Nat.le_of_ble_eq_true rfl) (suX1_hasPupil trivial) (fun x8 m9 e9 => ?_)
  obtain ⟨rfl, rfl⟩ := e9
  refine Wq.ifeq (tgt := 38) dX4_carryOutTest_8 (by decide) (fun q1 => ?_) (fun q1 => ?_)
  · replace h := h.1 (bI_0 q1)
    refine Wq.iconst (v := 0) dX4_carryOutTest_38 (by decide) ?_
    exact Wq.iret dX4_carryOutTest_39 (⟨_, rfl, by decide⟩) h
  · replace h := h.2 (bI_1 q1)
    refine Wq.aload_n (t := 10) (r := 8) (j := 0) dX4_carryOutTest_11 rfl ?_
    refine Wq.getf (v := pO 0 0 0) dX4_carryOutTest_12 fl_X4_12 ⟨rfl, rfl, by decide⟩ rfl ?_
    refine Wq.iload_n (x := x1) dX4_carryOutTest_15 rfl ?_
    refine Wq.callVI (As := [pI x1]) dX4_carryOutTest_16 fX1_mayBeTested ml_X4_103 rfl (by decide) rfl (Nat.le_of_ble_eq_true rfl) (Nat.le_of_ble_eq_true rfl) h (fun r2 m3 h => ?_)
    refine Wq.ifeq (tgt := 38) dX4_carryOutTest_19 (by decide) (fun q4 => ?_) (fun q4 => ?_)
    · replace h := h.1 q4
      refine Wq.iconst (v := 0) dX4_carryOutTest_38 (by decide) ?_
      exact Wq.iret dX4_carryOutTest_39 (⟨_, rfl, by decide⟩) h
    · replace h := h.2 q4
      refine Wq.aload_n (t := 10) (r := 8) (j := 0) dX4_carryOutTest_22 rfl ?_
      refine Wq.getf (v := pO 0 0 0) dX4_carryOutTest_23 fl_X4_12 ⟨rfl, rfl, by decide⟩ rfl ?_
      refine Wq.iload_n (x := x1) dX4_carryOutTest_26 rfl ?_
      refine Wq.iload_n (x := x2) dX4_carryOutTest_27 rfl ?_
      refine Wq.callVI (As := [pI x1, pI x2]) dX4_carryOutTest_28 fX1_holdTest ml_X4_108 rfl (by decide) rfl (Nat.le_of_ble_eq_true rfl) (Nat.le_of_ble_eq_true rfl) h (fun r5 m6 h => ?_)
      refine Wq.iflt (tgt := 38) dX4_carryOutTest_31 (by decide) (fun q7 => ?_) (fun q7 => ?_)
      · replace h := h.1 q7
        refine Wq.iconst (v := 0) dX4_carryOutTest_38 (by decide) ?_
        exact Wq.iret dX4_carryOutTest_39 (⟨_, rfl, by decide⟩) h
      · replace h := h.2 q7
        refine Wq.iconst (v := 1) dX4_carryOutTest_34 (by decide) ?_
        refine Wq.goto (tgt := 39) dX4_carryOutTest_35 (by decide) ?_
        exact Wq.iret dX4_carryOutTest_39 (⟨_, rfl, by decide⟩) h
set_option maxHeartbeats 4000000 in
set_option maxRecDepth 20000 in
theorem sgX4_carryOut {g : GG} {d : Nat} {c n : Nat} {m : PM} {Q : Ou → PM → Nat → Nat → Prop} {x1 : Int32} (h : (vp_in x1 60 ∧ (vp_in x1 60 ∧ (((m.1 8 14 0 (ix x1)) = 0 → ((¬ ((¬ (m.1 8 15 0 (ix x1)) < 0) ∧ (¬ (m.1 0 0 0 2) ≤ (m.1 8 15 0 (ix x1)))) → Q (.inl (some (pI 0))) m c n) ∧ ((¬ (m.1 8 15 0 (ix x1)) < 0) ∧ (¬ (m.1 0 0 0 2) ≤ (m.1 8 15 0 (ix x1))) → ((vp_in (m.1 8 15 0 (ix x1)) 12 ∧ True) ∧ ((¬ ((m.1 0 4 (ix (m.1 8 15 0 (ix x1))) 0) = 0) → Q (.inl (some (pI 0))) m c n) ∧ ((m.1 0 4 (ix (m.1 8 15 0 (ix x1))) 0) = 0 → Wp g (d + 3) MX1_letAsk 0 [some (pO 0 0 0), some (pI (m.1 8 15 0 (ix x1)))] [] m (cI fun r4 m5 => ((r4 < (-1) → Q (.inl (some (pI 0))) m5 c n) ∧ (¬ r4 < (-1) → Q (.inl (some (pI 1))) m5 c n))))))))) ∧ (¬ (m.1 8 14 0 (ix x1)) = 0 → (((m.1 8 14 0 (ix x1)) = 1 → ((¬ ((¬ (m.1 8 15 0 (ix x1)) < 0) ∧ (¬ (m.1 0 0 0 2) ≤ (m.1 8 15 0 (ix x1)))) → Q (.inl (some (pI 0))) m c n) ∧ ((¬ (m.1 8 15 0 (ix x1)) < 0) ∧ (¬ (m.1 0 0 0 2) ≤ (m.1 8 15 0 (ix x1))) → ((vp_in (m.1 8 15 0 (ix x1)) 12 ∧ True) ∧ ((¬ (((m.1 0 4 (ix (m.1 8 15 0 (ix x1))) 0) = 1) ∨ ((m.1 0 4 (ix (m.1 8 15 0 (ix x1))) 0) = 2)) → Q (.inl (some (pI 0))) m c n) ∧ (((m.1 0 4 (ix (m.1 8 15 0 (ix x1))) 0) = 1) ∨ ((m.1 0 4 (ix (m.1 8 15 0 (ix x1))) 0) = 2) → Wp g (d + 3) MX1_letQuit 0 [some (pO 0 0 0), some (pI (m.1 8 15 0 (ix x1)))] [] m (cI fun r12 m13 => ((r12 < 0 → Q (.inl (some (pI 0))) m13 c n) ∧ (¬ r12 < 0 → Q (.inl (some (pI 1))) m13 c n))))))))) ∧ (¬ (m.1 8 14 0 (ix x1)) = 1 → (((m.1 8 14 0 (ix x1)) = 2 → Wp g (d + 3) MX4_carryOutTest 0 [some (pO 10 8 0), some (pI (m.1 8 15 0 (ix x1))), some (pI 1)] [] m (cI fun r18 m19 => ((r18 = 0 ∨ r18 = 1) ∧ Q (.inl (some (pI r18))) m19 c n))) ∧ (¬ (m.1 8 14 0 (ix x1)) = 2 → (((m.1 8 14 0 (ix x1)) = 3 → Wp g (d + 3) MX4_carryOutTest 0 [some (pO 10 8 0), some (pI (m.1 8 15 0 (ix x1))), some (pI 0)] [] m (cI fun r21 m22 => ((r21 = 0 ∨ r21 = 1) ∧ Q (.inl (some (pI r21))) m22 c n))) ∧ (¬ (m.1 8 14 0 (ix x1)) = 3 → (((m.1 8 14 0 (ix x1)) = 4 → ((¬ ((¬ (m.1 8 15 0 (ix x1)) < 0) ∧ (¬ (m.1 0 0 0 1) ≤ (m.1 8 15 0 (ix x1)))) → Q (.inl (some (pI 0))) m c n) ∧ ((¬ (m.1 8 15 0 (ix x1)) < 0) ∧ (¬ (m.1 0 0 0 1) ≤ (m.1 8 15 0 (ix x1))) → (vp_in x1 60 ∧ Wp g (d + 3) MX1_cancelMorning 0 [some (pO 0 0 0), some (pI (m.1 8 15 0 (ix x1))), some (pI (m.1 8 16 0 (ix x1)))] [] m (cI fun r25 m26 => ((r25 < 0 → Q (.inl (some (pI 0))) m26 c n) ∧ (¬ r25 < 0 → Q (.inl (some (pI 1))) m26 c n))))))) ∧ (¬ (m.1 8 14 0 (ix x1)) = 4 → ((¬ (¬ 9999 ≤ (m.1 0 0 0 0)) → Q (.inl (some (pI 0))) m c n) ∧ (¬ 9999 ≤ (m.1 0 0 0 0) → Wp g (d + 3) MX1_goOn 0 [some (pO 0 0 0)] [] m (cI fun r30 m31 => ((r30 < 0 → Q (.inl (some (pI 0))) m31 c n) ∧ (¬ r30 < 0 → Q (.inl (some (pI 1))) m31 c n)))))))))))))))))) : Wq g (d + 4) MX4_carryOut c n 0 [some (pO 10 8 0), some (pI x1)] [] m Q := by
  refine Wq.few (ls' := [some (pO 10 8 0), some (pI x1), none]) ⟨rfl, ⟨rfl, trivial⟩⟩ ?_
  refine Wq.aload_n (t := 10) (r := 8) (j := 0) dX4_carryOut_0 rfl ?_
  refine Wq.getf (v := pO 12 8 0) dX4_carryOut_1 fl_X4_30 ⟨rfl, rfl, by decide⟩ rfl ?_
  refine Wq.getf (v := pO 15 8 0) dX4_carryOut_4 fl_X4_262 ⟨rfl, rfl, by decide⟩ rfl ?_
  refine Wq.iload_n (x := x1) dX4_carryOut_7 rfl ?_
  refine Wq.iald dX4_carryOut_8 rfl h.1 ?_
  replace h := h.2
  refine Wq.istore_n (ls2 := [some (pO 10 8 0), some (pI x1), some (pI (m.1 8 15 0 (ix x1)))]) dX4_carryOut_9 (by decide) rfl ?_
  refine Wq.aload_n (t := 10) (r := 8) (j := 0) dX4_carryOut_10 rfl ?_
  refine Wq.getf (v := pO 12 8 0) dX4_carryOut_11 fl_X4_30 ⟨rfl, rfl, by decide⟩ rfl ?_
  refine Wq.getf (v := pO 14 8 0) dX4_carryOut_14 fl_X4_265 ⟨rfl, rfl, by decide⟩ rfl ?_
  refine Wq.iload_n (x := x1) dX4_carryOut_17 rfl ?_
  refine Wq.iald dX4_carryOut_18 rfl h.1 ?_
  replace h := h.2
  by_cases q1 : (m.1 8 14 0 (ix x1)) = 0
  · replace h := h.1 q1
    refine Wq.tableIn (tgt := 52) dX4_carryOut_19 (by rw [q1]; decide) (by rw [q1]; decide) (by rw [q1]; rfl) (by decide) ?_
    refine Wq.aload_n (t := 10) (r := 8) (j := 0) dX4_carryOut_52 rfl ?_
    refine Wq.getf (v := pO 0 0 0) dX4_carryOut_53 fl_X4_12 ⟨rfl, rfl, by decide⟩ rfl ?_
    refine Wq.iload_n (x := (m.1 8 15 0 (ix x1))) dX4_carryOut_56 rfl ?_
    refine Wq.callVI (As := [pI (m.1 8 15 0 (ix x1))]) dX4_carryOut_57 fX1_hasPupil ml_X4_59 rfl (by decide) rfl (Nat.le_of_ble_eq_true rfl) (Nat.le_of_ble_eq_true rfl) (suX1_hasPupil trivial) (fun x8 m9 e9 => ?_)
    obtain ⟨rfl, rfl⟩ := e9
    refine Wq.ifeq (tgt := 90) dX4_carryOut_60 (by decide) (fun q2 => ?_) (fun q2 => ?_)
    · replace h := h.1 (bI_0 q2)
      refine Wq.iconst (v := 0) dX4_carryOut_90 (by decide) ?_
      exact Wq.iret dX4_carryOut_91 (⟨_, rfl, by decide⟩) h
    · replace h := h.2 (bI_1 q2)
      refine Wq.aload_n (t := 10) (r := 8) (j := 0) dX4_carryOut_63 rfl ?_
      refine Wq.getf (v := pO 0 0 0) dX4_carryOut_64 fl_X4_12 ⟨rfl, rfl, by decide⟩ rfl ?_
      refine Wq.iload_n (x := (m.1 8 15 0 (ix x1))) dX4_carryOut_67 rfl ?_
      refine Wq.callVI (As := [pI (m.1 8 15 0 (ix x1))]) dX4_carryOut_68 fX1_mayAsk ml_X4_68 rfl (by decide) rfl (Nat.le_of_ble_eq_true rfl) (Nat.le_of_ble_eq_true rfl) (suX1_mayAsk h.1) (fun x7 m9 e9 => ?_)
      obtain ⟨rfl, rfl⟩ := e9
      replace h := h.2
      refine Wq.ifeq (tgt := 90) dX4_carryOut_71 (by decide) (fun q3 => ?_) (fun q3 => ?_)
      · replace h := h.1 (bI_0 q3)
        refine Wq.iconst (v := 0) dX4_carryOut_90 (by decide) ?_
        exact Wq.iret dX4_carryOut_91 (⟨_, rfl, by decide⟩) h
      · replace h := h.2 (bI_1 q3)
        refine Wq.aload_n (t := 10) (r := 8) (j := 0) dX4_carryOut_74 rfl ?_
        refine Wq.getf (v := pO 0 0 0) dX4_carryOut_75 fl_X4_12 ⟨rfl, rfl, by decide⟩ rfl ?_
        refine Wq.iload_n (x := (m.1 8 15 0 (ix x1))) dX4_carryOut_78 rfl ?_
        refine Wq.callVI (As := [pI (m.1 8 15 0 (ix x1))]) dX4_carryOut_79 fX1_letAsk ml_X4_73 rfl (by decide) rfl (Nat.le_of_ble_eq_true rfl) (Nat.le_of_ble_eq_true rfl) h (fun r4 m5 h => ?_)
        refine Wq.iconst (v := (-1)) dX4_carryOut_82 (by decide) ?_
        refine Wq.icmplt (tgt := 90) dX4_carryOut_83 (by decide) (fun q6 => ?_) (fun q6 => ?_)
        · replace h := h.1 q6
          refine Wq.iconst (v := 0) dX4_carryOut_90 (by decide) ?_
          exact Wq.iret dX4_carryOut_91 (⟨_, rfl, by decide⟩) h
        · replace h := h.2 q6
          refine Wq.iconst (v := 1) dX4_carryOut_86 (by decide) ?_
          refine Wq.goto (tgt := 91) dX4_carryOut_87 (by decide) ?_
          exact Wq.iret dX4_carryOut_91 (⟨_, rfl, by decide⟩) h
  · replace h := h.2 q1
    by_cases q9 : (m.1 8 14 0 (ix x1)) = 1
    · replace h := h.1 q9
      refine Wq.tableIn (tgt := 92) dX4_carryOut_19 (by rw [q9]; decide) (by rw [q9]; decide) (by rw [q9]; rfl) (by decide) ?_
      refine Wq.aload_n (t := 10) (r := 8) (j := 0) dX4_carryOut_92 rfl ?_
      refine Wq.getf (v := pO 0 0 0) dX4_carryOut_93 fl_X4_12 ⟨rfl, rfl, by decide⟩ rfl ?_
      refine Wq.iload_n (x := (m.1 8 15 0 (ix x1))) dX4_carryOut_96 rfl ?_
      refine Wq.callVI (As := [pI (m.1 8 15 0 (ix x1))]) dX4_carryOut_97 fX1_hasPupil ml_X4_59 rfl (by decide) rfl (Nat.le_of_ble_eq_true rfl) (Nat.le_of_ble_eq_true rfl) (suX1_hasPupil trivial) (fun x16 m9 e9 => ?_)
      obtain ⟨rfl, rfl⟩ := e9
      refine Wq.ifeq (tgt := 129) dX4_carryOut_100 (by decide) (fun q10 => ?_) (fun q10 => ?_)
      · replace h := h.1 (bI_0 q10)
        refine Wq.iconst (v := 0) dX4_carryOut_129 (by decide) ?_
        exact Wq.iret dX4_carryOut_130 (⟨_, rfl, by decide⟩) h
      · replace h := h.2 (bI_1 q10)
        refine Wq.aload_n (t := 10) (r := 8) (j := 0) dX4_carryOut_103 rfl ?_
        refine Wq.getf (v := pO 0 0 0) dX4_carryOut_104 fl_X4_12 ⟨rfl, rfl, by decide⟩ rfl ?_
        refine Wq.iload_n (x := (m.1 8 15 0 (ix x1))) dX4_carryOut_107 rfl ?_
        refine Wq.callVI (As := [pI (m.1 8 15 0 (ix x1))]) dX4_carryOut_108 fX1_mayQuit ml_X4_77 rfl (by decide) rfl (Nat.le_of_ble_eq_true rfl) (Nat.le_of_ble_eq_true rfl) (suX1_mayQuit h.1) (fun x15 m9 e9 => ?_)
        obtain ⟨rfl, rfl⟩ := e9
        replace h := h.2
        refine Wq.ifeq (tgt := 129) dX4_carryOut_111 (by decide) (fun q11 => ?_) (fun q11 => ?_)
        · replace h := h.1 (bI_0 q11)
          refine Wq.iconst (v := 0) dX4_carryOut_129 (by decide) ?_
          exact Wq.iret dX4_carryOut_130 (⟨_, rfl, by decide⟩) h
        · replace h := h.2 (bI_1 q11)
          refine Wq.aload_n (t := 10) (r := 8) (j := 0) dX4_carryOut_114 rfl ?_
          refine Wq.getf (v := pO 0 0 0) dX4_carryOut_115 fl_X4_12 ⟨rfl, rfl, by decide⟩ rfl ?_
          refine Wq.iload_n (x := (m.1 8 15 0 (ix x1))) dX4_carryOut_118 rfl ?_
          refine Wq.callVI (As := [pI (m.1 8 15 0 (ix x1))]) dX4_carryOut_119 fX1_letQuit ml_X4_82 rfl (by decide) rfl (Nat.le_of_ble_eq_true rfl) (Nat.le_of_ble_eq_true rfl) h (fun r12 m13 h => ?_)
          refine Wq.iflt (tgt := 129) dX4_carryOut_122 (by decide) (fun q14 => ?_) (fun q14 => ?_)
          · replace h := h.1 q14
            refine Wq.iconst (v := 0) dX4_carryOut_129 (by decide) ?_
            exact Wq.iret dX4_carryOut_130 (⟨_, rfl, by decide⟩) h
          · replace h := h.2 q14
            refine Wq.iconst (v := 1) dX4_carryOut_125 (by decide) ?_
            refine Wq.goto (tgt := 130) dX4_carryOut_126 (by decide) ?_
            exact Wq.iret dX4_carryOut_130 (⟨_, rfl, by decide⟩) h
    · replace h := h.2 q9
      by_cases q17 : (m.1 8 14 0 (ix x1)) = 2
      · replace h := h.1 q17
        refine Wq.tableIn (tgt := 131) dX4_carryOut_19 (by rw [q17]; decide) (by rw [q17]; decide) (by rw [q17]; rfl) (by decide) ?_
        refine Wq.aload_n (t := 10) (r := 8) (j := 0) dX4_carryOut_131 rfl ?_
        refine Wq.iload_n (x := (m.1 8 15 0 (ix x1))) dX4_carryOut_132 rfl ?_
        refine Wq.iconst (v := 1) dX4_carryOut_133 (by decide) ?_
        refine Wq.callVI (As := [pI (m.1 8 15 0 (ix x1)), pI 1]) dX4_carryOut_134 fX4_carryOutTest ml_X4_268 rfl (by decide) rfl (Nat.le_of_ble_eq_true rfl) (Nat.le_of_ble_eq_true rfl) h (fun r18 m19 h => ?_)
        exact Wq.iret dX4_carryOut_137 (⟨_, rfl, z_narrow h.1⟩) h.2
      · replace h := h.2 q17
        by_cases q20 : (m.1 8 14 0 (ix x1)) = 3
        · replace h := h.1 q20
          refine Wq.tableIn (tgt := 138) dX4_carryOut_19 (by rw [q20]; decide) (by rw [q20]; decide) (by rw [q20]; rfl) (by decide) ?_
          refine Wq.aload_n (t := 10) (r := 8) (j := 0) dX4_carryOut_138 rfl ?_
          refine Wq.iload_n (x := (m.1 8 15 0 (ix x1))) dX4_carryOut_139 rfl ?_
          refine Wq.iconst (v := 0) dX4_carryOut_140 (by decide) ?_
          refine Wq.callVI (As := [pI (m.1 8 15 0 (ix x1)), pI 0]) dX4_carryOut_141 fX4_carryOutTest ml_X4_268 rfl (by decide) rfl (Nat.le_of_ble_eq_true rfl) (Nat.le_of_ble_eq_true rfl) h (fun r21 m22 h => ?_)
          exact Wq.iret dX4_carryOut_144 (⟨_, rfl, z_narrow h.1⟩) h.2
        · replace h := h.2 q20
          by_cases q23 : (m.1 8 14 0 (ix x1)) = 4
          · replace h := h.1 q23
            refine Wq.tableIn (tgt := 145) dX4_carryOut_19 (by rw [q23]; decide) (by rw [q23]; decide) (by rw [q23]; rfl) (by decide) ?_
            refine Wq.aload_n (t := 10) (r := 8) (j := 0) dX4_carryOut_145 rfl ?_
            refine Wq.getf (v := pO 0 0 0) dX4_carryOut_146 fl_X4_12 ⟨rfl, rfl, by decide⟩ rfl ?_
            refine Wq.iload_n (x := (m.1 8 15 0 (ix x1))) dX4_carryOut_149 rfl ?_
            refine Wq.callVI (As := [pI (m.1 8 15 0 (ix x1))]) dX4_carryOut_150 fX1_hasExaminer ml_X4_85 rfl (by decide) rfl (Nat.le_of_ble_eq_true rfl) (Nat.le_of_ble_eq_true rfl) (suX1_hasExaminer trivial) (fun x28 m9 e9 => ?_)
            obtain ⟨rfl, rfl⟩ := e9
            refine Wq.ifeq (tgt := 180) dX4_carryOut_153 (by decide) (fun q24 => ?_) (fun q24 => ?_)
            · replace h := h.1 (bI_0 q24)
              refine Wq.iconst (v := 0) dX4_carryOut_180 (by decide) ?_
              exact Wq.iret dX4_carryOut_181 (⟨_, rfl, by decide⟩) h
            · replace h := h.2 (bI_1 q24)
              refine Wq.aload_n (t := 10) (r := 8) (j := 0) dX4_carryOut_156 rfl ?_
              refine Wq.getf (v := pO 0 0 0) dX4_carryOut_157 fl_X4_12 ⟨rfl, rfl, by decide⟩ rfl ?_
              refine Wq.iload_n (x := (m.1 8 15 0 (ix x1))) dX4_carryOut_160 rfl ?_
              refine Wq.aload_n (t := 10) (r := 8) (j := 0) dX4_carryOut_161 rfl ?_
              refine Wq.getf (v := pO 12 8 0) dX4_carryOut_162 fl_X4_30 ⟨rfl, rfl, by decide⟩ rfl ?_
              refine Wq.getf (v := pO 16 8 0) dX4_carryOut_165 fl_X4_272 ⟨rfl, rfl, by decide⟩ rfl ?_
              refine Wq.iload_n (x := x1) dX4_carryOut_168 rfl ?_
              refine Wq.iald dX4_carryOut_169 rfl h.1 ?_
              replace h := h.2
              refine Wq.callVI (As := [pI (m.1 8 15 0 (ix x1)), pI (m.1 8 16 0 (ix x1))]) dX4_carryOut_170 fX1_cancelMorning ml_X4_99 rfl (by decide) rfl (Nat.le_of_ble_eq_true rfl) (Nat.le_of_ble_eq_true rfl) h (fun r25 m26 h => ?_)
              refine Wq.iflt (tgt := 180) dX4_carryOut_173 (by decide) (fun q27 => ?_) (fun q27 => ?_)
              · replace h := h.1 q27
                refine Wq.iconst (v := 0) dX4_carryOut_180 (by decide) ?_
                exact Wq.iret dX4_carryOut_181 (⟨_, rfl, by decide⟩) h
              · replace h := h.2 q27
                refine Wq.iconst (v := 1) dX4_carryOut_176 (by decide) ?_
                refine Wq.goto (tgt := 181) dX4_carryOut_177 (by decide) ?_
                exact Wq.iret dX4_carryOut_181 (⟨_, rfl, by decide⟩) h
          · replace h := h.2 q23
            refine Wq.tableOut (tgt := 182) dX4_carryOut_19 (sw_out5 q1 q9 q17 q20 q23) (by decide) ?_
            refine Wq.aload_n (t := 10) (r := 8) (j := 0) dX4_carryOut_182 rfl ?_
            refine Wq.getf (v := pO 0 0 0) dX4_carryOut_183 fl_X4_12 ⟨rfl, rfl, by decide⟩ rfl ?_
            refine Wq.callVI (As := []) dX4_carryOut_186 fX1_mayGoOn ml_X4_112 rfl (by decide) rfl (Nat.le_of_ble_eq_true rfl) (Nat.le_of_ble_eq_true rfl) (suX1_mayGoOn trivial) (fun x33 m9 e9 => ?_)
            obtain ⟨rfl, rfl⟩ := e9
            refine Wq.ifeq (tgt := 206) dX4_carryOut_189 (by decide) (fun q29 => ?_) (fun q29 => ?_)
            · replace h := h.1 (bI_0 q29)
              refine Wq.iconst (v := 0) dX4_carryOut_206 (by decide) ?_
              exact Wq.iret dX4_carryOut_207 (⟨_, rfl, by decide⟩) h
            · replace h := h.2 (bI_1 q29)
              refine Wq.aload_n (t := 10) (r := 8) (j := 0) dX4_carryOut_192 rfl ?_
              refine Wq.getf (v := pO 0 0 0) dX4_carryOut_193 fl_X4_12 ⟨rfl, rfl, by decide⟩ rfl ?_
              refine Wq.callVI (As := []) dX4_carryOut_196 fX1_goOn ml_X4_118 rfl (by decide) rfl (Nat.le_of_ble_eq_true rfl) (Nat.le_of_ble_eq_true rfl) h (fun r30 m31 h => ?_)
              refine Wq.iflt (tgt := 206) dX4_carryOut_199 (by decide) (fun q32 => ?_) (fun q32 => ?_)
              · replace h := h.1 q32
                refine Wq.iconst (v := 0) dX4_carryOut_206 (by decide) ?_
                exact Wq.iret dX4_carryOut_207 (⟨_, rfl, by decide⟩) h
              · replace h := h.2 q32
                refine Wq.iconst (v := 1) dX4_carryOut_202 (by decide) ?_
                refine Wq.goto (tgt := 207) dX4_carryOut_203 (by decide) ?_
                exact Wq.iret dX4_carryOut_207 (⟨_, rfl, by decide⟩) h
set_option maxHeartbeats 4000000 in
set_option maxRecDepth 20000 in
theorem sgX4_addExaminer {g : GG} {d : Nat} {c n : Nat} {m : PM} {Q : Ou → PM → Nat → Nat → Prop}  (h : (((m.1 0 0 0 1) < 4 → Wp g (d + 5) MX4_save 0 [some (pO 10 8 0)] [] m (cV fun m3 => Wp g (d + 5) MX1_takeOnExaminer 0 [some (pO 0 0 0)] [] m3 (cI fun r4 m5 => Q (.inl (some (pI r4))) m5 c n))) ∧ (¬ (m.1 0 0 0 1) < 4 → Q (.inr 1) m c n))) : Wq g (d + 6) MX4_addExaminer c n 0 [some (pO 10 8 0)] [] m Q := by
  refine Wq.few (ls' := [some (pO 10 8 0)]) ⟨rfl, trivial⟩ ?_
  refine Wq.aload_n (t := 10) (r := 8) (j := 0) dX4_addExaminer_0 rfl ?_
  refine Wq.getf (v := pO 0 0 0) dX4_addExaminer_1 fl_X4_12 ⟨rfl, rfl, by decide⟩ rfl ?_
  refine Wq.getf (v := pI (m.1 0 0 0 1)) dX4_addExaminer_4 fl_X4_34 ⟨rfl, rfl, by decide⟩ rfl ?_
  refine Wq.iconst (v := 4) dX4_addExaminer_7 (by decide) ?_
  refine Wq.icmplt (tgt := 21) dX4_addExaminer_8 (by decide) (fun q1 => ?_) (fun q1 => ?_)
  · replace h := h.1 q1
    refine Wq.aload_n (t := 10) (r := 8) (j := 0) dX4_addExaminer_21 rfl ?_
    refine Wq.callVV (As := []) dX4_addExaminer_22 fX4_save ml_X4_44 rfl (by decide) rfl (Nat.le_of_ble_eq_true rfl) (Nat.le_of_ble_eq_true rfl) h (fun m3 h => ?_)
    refine Wq.aload_n (t := 10) (r := 8) (j := 0) dX4_addExaminer_25 rfl ?_
    refine Wq.getf (v := pO 0 0 0) dX4_addExaminer_26 fl_X4_12 ⟨rfl, rfl, by decide⟩ rfl ?_
    refine Wq.callVI (As := []) dX4_addExaminer_29 fX1_takeOnExaminer ml_X4_47 rfl (by decide) rfl (Nat.le_of_ble_eq_true rfl) (Nat.le_of_ble_eq_true rfl) h (fun r4 m5 h => ?_)
    exact Wq.iret dX4_addExaminer_32 (⟨_, rfl, rfl⟩) h
  · replace h := h.2 q1
    exact Wq.throw (E := 1) rfl dX4_addExaminer_11 dX4_addExaminer_14 dX4_addExaminer_15 dX4_addExaminer_17 dX4_addExaminer_20 (List.mem_of_getElem? (i := 0) rfl) (by decide) h
set_option maxHeartbeats 4000000 in
set_option maxRecDepth 20000 in
theorem sgX4_addPupil {g : GG} {d : Nat} {c n : Nat} {m : PM} {Q : Ou → PM → Nat → Nat → Prop}  (h : (((m.1 0 0 0 2) < 12 → Wp g (d + 5) MX4_save 0 [some (pO 10 8 0)] [] m (cV fun m3 => (vp_in (m3.1 0 0 0 2) 12 ∧ Q (.inl (some (pI (m3.1 0 0 0 2)))) (setI (setI m3 0 0 0 2 ((m3.1 0 0 0 2) + 1)) 4 0 (ix (m3.1 0 0 0 2)) 2 ((setI m3 0 0 0 2 ((m3.1 0 0 0 2) + 1)).1 0 0 0 0)) c n))) ∧ (¬ (m.1 0 0 0 2) < 12 → Q (.inr 1) m c n))) : Wq g (d + 6) MX4_addPupil c n 0 [some (pO 10 8 0)] [] m Q := by
  refine Wq.few (ls' := [some (pO 10 8 0)]) ⟨rfl, trivial⟩ ?_
  refine Wq.aload_n (t := 10) (r := 8) (j := 0) dX4_addPupil_0 rfl ?_
  refine Wq.getf (v := pO 0 0 0) dX4_addPupil_1 fl_X4_12 ⟨rfl, rfl, by decide⟩ rfl ?_
  refine Wq.getf (v := pI (m.1 0 0 0 2)) dX4_addPupil_4 fl_X4_51 ⟨rfl, rfl, by decide⟩ rfl ?_
  refine Wq.bipush (v := 12) dX4_addPupil_7 (by decide) ?_
  refine Wq.icmplt (tgt := 22) dX4_addPupil_9 (by decide) (fun q1 => ?_) (fun q1 => ?_)
  · replace h := h.1 q1
    refine Wq.aload_n (t := 10) (r := 8) (j := 0) dX4_addPupil_22 rfl ?_
    refine Wq.callVV (As := []) dX4_addPupil_23 fX4_save ml_X4_44 rfl (by decide) rfl (Nat.le_of_ble_eq_true rfl) (Nat.le_of_ble_eq_true rfl) h (fun m3 h => ?_)
    refine Wq.aload_n (t := 10) (r := 8) (j := 0) dX4_addPupil_26 rfl ?_
    refine Wq.getf (v := pO 0 0 0) dX4_addPupil_27 fl_X4_12 ⟨rfl, rfl, by decide⟩ rfl ?_
    refine Wq.callVI (As := []) dX4_addPupil_30 fX1_takeOnPupil ml_X4_56 rfl (by decide) rfl (Nat.le_of_ble_eq_true rfl) (Nat.le_of_ble_eq_true rfl) ?_ (fun _ _ h9 => h9)
    refine Wq.few (ls' := [some (pO 0 0 0), none]) ⟨rfl, trivial⟩ ?_
    refine Wq.aload_n (t := 0) (r := 0) (j := 0) dX1_takeOnPupil_0 rfl ?_
    refine Wq.getf (v := pI (m3.1 0 0 0 2)) dX1_takeOnPupil_1 fl_X1_18 ⟨rfl, rfl, by decide⟩ rfl ?_
    refine Wq.istore_n (ls2 := [some (pO 0 0 0), some (pI (m3.1 0 0 0 2))]) dX1_takeOnPupil_4 (by decide) rfl ?_
    refine Wq.aload_n (t := 0) (r := 0) (j := 0) dX1_takeOnPupil_5 rfl ?_
    refine Wq.dup dX1_takeOnPupil_6 rfl ?_
    refine Wq.getf (v := pI (m3.1 0 0 0 2)) dX1_takeOnPupil_7 fl_X1_18 ⟨rfl, rfl, by decide⟩ rfl ?_
    refine Wq.iconst (v := 1) dX1_takeOnPupil_10 (by decide) ?_
    refine Wq.iadd dX1_takeOnPupil_11 ?_
    refine Wq.putI dX1_takeOnPupil_12 fw_X1_18 ⟨rfl, rfl, by decide⟩ ⟨rfl, by decide, by decide⟩ ⟨rfl, rfl⟩ ?_
    refine Wq.aload_n (t := 0) (r := 0) (j := 0) dX1_takeOnPupil_15 rfl ?_
    refine Wq.getf (v := pO 7 0 0) dX1_takeOnPupil_16 fl_X1_39 ⟨rfl, rfl, by decide⟩ rfl ?_
    refine Wq.iload_n (x := (m3.1 0 0 0 2)) dX1_takeOnPupil_19 rfl ?_
    refine Wq.aaldP dX1_takeOnPupil_20 h.1 ?_
    replace h := h.2
    refine Wq.aload_n (t := 0) (r := 0) (j := 0) dX1_takeOnPupil_21 rfl ?_
    refine Wq.getf (v := pI ((setI m3 0 0 0 2 ((m3.1 0 0 0 2) + 1)).1 0 0 0 0)) dX1_takeOnPupil_22 fl_X1_9 ⟨rfl, rfl, by decide⟩ rfl ?_
    refine Wq.putI dX1_takeOnPupil_25 fw_X1_80 ⟨rfl, rfl, by decide⟩ ⟨rfl, by decide, by decide⟩ ⟨rfl, rfl⟩ ?_
    refine Wq.iload_n (x := (m3.1 0 0 0 2)) dX1_takeOnPupil_28 rfl ?_
    refine Wq.iretI dX1_takeOnPupil_29 (⟨_, rfl, rfl⟩) ?_
    exact Wq.iret dX4_addPupil_33 (⟨_, rfl, rfl⟩) h
  · replace h := h.2 q1
    exact Wq.throw (E := 1) rfl dX4_addPupil_12 dX4_addPupil_15 dX4_addPupil_16 dX4_addPupil_18 dX4_addPupil_21 (List.mem_of_getElem? (i := 1) rfl) (by decide) h
set_option maxHeartbeats 4000000 in
set_option maxRecDepth 20000 in
theorem sgX4_ask {g : GG} {d : Nat} {c n : Nat} {m : PM} {Q : Ou → PM → Nat → Nat → Prop} {x1 : Int32} (h : (((¬ x1 < 0) ∧ (¬ (m.1 0 0 0 2) ≤ x1) → ((vp_in x1 12 ∧ True) ∧ (((m.1 0 4 (ix x1) 0) = 0 → Wp g (d + 5) MX4_save 0 [some (pO 10 8 0)] [] m (cV fun m4 => Wp g (d + 5) MX1_letAsk 0 [some (pO 0 0 0), some (pI x1)] [] m4 (cI fun r5 m6 => Q (.inl (some (pI r5))) m6 c n))) ∧ (¬ ((m.1 0 4 (ix x1) 0) = 0) → Q (.inr 1) m c n)))) ∧ (¬ ((¬ x1 < 0) ∧ (¬ (m.1 0 0 0 2) ≤ x1)) → Q (.inr 3) m c n))) : Wq g (d + 6) MX4_ask c n 0 [some (pO 10 8 0), some (pI x1)] [] m Q := by
  refine Wq.few (ls' := [some (pO 10 8 0), some (pI x1)]) ⟨rfl, ⟨rfl, trivial⟩⟩ ?_
  refine Wq.aload_n (t := 10) (r := 8) (j := 0) dX4_ask_0 rfl ?_
  refine Wq.getf (v := pO 0 0 0) dX4_ask_1 fl_X4_12 ⟨rfl, rfl, by decide⟩ rfl ?_
  refine Wq.iload_n (x := x1) dX4_ask_4 rfl ?_
  refine Wq.callVI (As := [pI x1]) dX4_ask_5 fX1_hasPupil ml_X4_59 rfl (by decide) rfl (Nat.le_of_ble_eq_true rfl) (Nat.le_of_ble_eq_true rfl) (suX1_hasPupil trivial) (fun x8 m9 e9 => ?_)
  obtain ⟨rfl, rfl⟩ := e9
  refine Wq.ifne (tgt := 21) dX4_ask_8 (by decide) (fun q1 => ?_) (fun q1 => ?_)
  · replace h := h.1 (bI_1 q1)
    refine Wq.aload_n (t := 10) (r := 8) (j := 0) dX4_ask_21 rfl ?_
    refine Wq.getf (v := pO 0 0 0) dX4_ask_22 fl_X4_12 ⟨rfl, rfl, by decide⟩ rfl ?_
    refine Wq.iload_n (x := x1) dX4_ask_25 rfl ?_
    refine Wq.callVI (As := [pI x1]) dX4_ask_26 fX1_mayAsk ml_X4_68 rfl (by decide) rfl (Nat.le_of_ble_eq_true rfl) (Nat.le_of_ble_eq_true rfl) (suX1_mayAsk h.1) (fun x7 m9 e9 => ?_)
    obtain ⟨rfl, rfl⟩ := e9
    replace h := h.2
    refine Wq.ifne (tgt := 42) dX4_ask_29 (by decide) (fun q2 => ?_) (fun q2 => ?_)
    · replace h := h.1 (bI_1 q2)
      refine Wq.aload_n (t := 10) (r := 8) (j := 0) dX4_ask_42 rfl ?_
      refine Wq.callVV (As := []) dX4_ask_43 fX4_save ml_X4_44 rfl (by decide) rfl (Nat.le_of_ble_eq_true rfl) (Nat.le_of_ble_eq_true rfl) h (fun m4 h => ?_)
      refine Wq.aload_n (t := 10) (r := 8) (j := 0) dX4_ask_46 rfl ?_
      refine Wq.getf (v := pO 0 0 0) dX4_ask_47 fl_X4_12 ⟨rfl, rfl, by decide⟩ rfl ?_
      refine Wq.iload_n (x := x1) dX4_ask_50 rfl ?_
      refine Wq.callVI (As := [pI x1]) dX4_ask_51 fX1_letAsk ml_X4_73 rfl (by decide) rfl (Nat.le_of_ble_eq_true rfl) (Nat.le_of_ble_eq_true rfl) h (fun r5 m6 h => ?_)
      exact Wq.iret dX4_ask_54 (⟨_, rfl, rfl⟩) h
    · replace h := h.2 (bI_0 q2)
      exact Wq.throw (E := 1) rfl dX4_ask_32 dX4_ask_35 dX4_ask_36 dX4_ask_38 dX4_ask_41 (List.mem_of_getElem? (i := 3) rfl) (by decide) h
  · replace h := h.2 (bI_0 q1)
    exact Wq.throw (E := 3) rfl dX4_ask_11 dX4_ask_14 dX4_ask_15 dX4_ask_17 dX4_ask_20 (List.mem_of_getElem? (i := 2) rfl) (by decide) h
set_option maxHeartbeats 4000000 in
set_option maxRecDepth 20000 in
theorem sgX4_quit {g : GG} {d : Nat} {c n : Nat} {m : PM} {Q : Ou → PM → Nat → Nat → Prop} {x1 : Int32} (h : (((¬ x1 < 0) ∧ (¬ (m.1 0 0 0 2) ≤ x1) → ((vp_in x1 12 ∧ True) ∧ ((((m.1 0 4 (ix x1) 0) = 1) ∨ ((m.1 0 4 (ix x1) 0) = 2) → Wp g (d + 5) MX4_save 0 [some (pO 10 8 0)] [] m (cV fun m4 => Wp g (d + 5) MX1_letQuit 0 [some (pO 0 0 0), some (pI x1)] [] m4 (cI fun r5 m6 => Q (.inl (some (pI r5))) m6 c n))) ∧ (¬ (((m.1 0 4 (ix x1) 0) = 1) ∨ ((m.1 0 4 (ix x1) 0) = 2)) → Q (.inr 1) m c n)))) ∧ (¬ ((¬ x1 < 0) ∧ (¬ (m.1 0 0 0 2) ≤ x1)) → Q (.inr 3) m c n))) : Wq g (d + 6) MX4_quit c n 0 [some (pO 10 8 0), some (pI x1)] [] m Q := by
  refine Wq.few (ls' := [some (pO 10 8 0), some (pI x1)]) ⟨rfl, ⟨rfl, trivial⟩⟩ ?_
  refine Wq.aload_n (t := 10) (r := 8) (j := 0) dX4_quit_0 rfl ?_
  refine Wq.getf (v := pO 0 0 0) dX4_quit_1 fl_X4_12 ⟨rfl, rfl, by decide⟩ rfl ?_
  refine Wq.iload_n (x := x1) dX4_quit_4 rfl ?_
  refine Wq.callVI (As := [pI x1]) dX4_quit_5 fX1_hasPupil ml_X4_59 rfl (by decide) rfl (Nat.le_of_ble_eq_true rfl) (Nat.le_of_ble_eq_true rfl) (suX1_hasPupil trivial) (fun x8 m9 e9 => ?_)
  obtain ⟨rfl, rfl⟩ := e9
  refine Wq.ifne (tgt := 21) dX4_quit_8 (by decide) (fun q1 => ?_) (fun q1 => ?_)
  · replace h := h.1 (bI_1 q1)
    refine Wq.aload_n (t := 10) (r := 8) (j := 0) dX4_quit_21 rfl ?_
    refine Wq.getf (v := pO 0 0 0) dX4_quit_22 fl_X4_12 ⟨rfl, rfl, by decide⟩ rfl ?_
    refine Wq.iload_n (x := x1) dX4_quit_25 rfl ?_
    refine Wq.callVI (As := [pI x1]) dX4_quit_26 fX1_mayQuit ml_X4_77 rfl (by decide) rfl (Nat.le_of_ble_eq_true rfl) (Nat.le_of_ble_eq_true rfl) (suX1_mayQuit h.1) (fun x7 m9 e9 => ?_)
    obtain ⟨rfl, rfl⟩ := e9
    replace h := h.2
    refine Wq.ifne (tgt := 42) dX4_quit_29 (by decide) (fun q2 => ?_) (fun q2 => ?_)
    · replace h := h.1 (bI_1 q2)
      refine Wq.aload_n (t := 10) (r := 8) (j := 0) dX4_quit_42 rfl ?_
      refine Wq.callVV (As := []) dX4_quit_43 fX4_save ml_X4_44 rfl (by decide) rfl (Nat.le_of_ble_eq_true rfl) (Nat.le_of_ble_eq_true rfl) h (fun m4 h => ?_)
      refine Wq.aload_n (t := 10) (r := 8) (j := 0) dX4_quit_46 rfl ?_
      refine Wq.getf (v := pO 0 0 0) dX4_quit_47 fl_X4_12 ⟨rfl, rfl, by decide⟩ rfl ?_
      refine Wq.iload_n (x := x1) dX4_quit_50 rfl ?_
      refine Wq.callVI (As := [pI x1]) dX4_quit_51 fX1_letQuit ml_X4_82 rfl (by decide) rfl (Nat.le_of_ble_eq_true rfl) (Nat.le_of_ble_eq_true rfl) h (fun r5 m6 h => ?_)
      exact Wq.iret dX4_quit_54 (⟨_, rfl, rfl⟩) h
    · replace h := h.2 (bI_0 q2)
      exact Wq.throw (E := 1) rfl dX4_quit_32 dX4_quit_35 dX4_quit_36 dX4_quit_38 dX4_quit_41 (List.mem_of_getElem? (i := 4) rfl) (by decide) h
  · replace h := h.2 (bI_0 q1)
    exact Wq.throw (E := 3) rfl dX4_quit_11 dX4_quit_14 dX4_quit_15 dX4_quit_17 dX4_quit_20 (List.mem_of_getElem? (i := 2) rfl) (by decide) h
set_option maxHeartbeats 4000000 in
set_option maxRecDepth 20000 in
theorem sgX4_cancel {g : GG} {d : Nat} {c n : Nat} {m : PM} {Q : Ou → PM → Nat → Nat → Prop} {x1 : Int32} {x2 : Int32} (h : (((¬ x1 < 0) ∧ (¬ (m.1 0 0 0 1) ≤ x1) → (((¬ x2 < (0 : Int32)) ∧ (¬ (9 : Int32) < x2) → Wp g (d + 5) MX4_save 0 [some (pO 10 8 0)] [] m (cV fun m4 => Wp g (d + 5) MX1_cancelMorning 0 [some (pO 0 0 0), some (pI x1), some (pI x2)] [] m4 (cI fun r5 m6 => Q (.inl (some (pI r5))) m6 c n))) ∧ (¬ ((¬ x2 < (0 : Int32)) ∧ (¬ (9 : Int32) < x2)) → Q (.inr 2) m c n))) ∧ (¬ ((¬ x1 < 0) ∧ (¬ (m.1 0 0 0 1) ≤ x1)) → Q (.inr 3) m c n))) : Wq g (d + 6) MX4_cancel c n 0 [some (pO 10 8 0), some (pI x1), some (pI x2)] [] m Q := by
  refine Wq.few (ls' := [some (pO 10 8 0), some (pI x1), some (pI x2)]) ⟨rfl, ⟨rfl, ⟨rfl, trivial⟩⟩⟩ ?_
  refine Wq.aload_n (t := 10) (r := 8) (j := 0) dX4_cancel_0 rfl ?_
  refine Wq.getf (v := pO 0 0 0) dX4_cancel_1 fl_X4_12 ⟨rfl, rfl, by decide⟩ rfl ?_
  refine Wq.iload_n (x := x1) dX4_cancel_4 rfl ?_
  refine Wq.callVI (As := [pI x1]) dX4_cancel_5 fX1_hasExaminer ml_X4_85 rfl (by decide) rfl (Nat.le_of_ble_eq_true rfl) (Nat.le_of_ble_eq_true rfl) (suX1_hasExaminer trivial) (fun x8 m9 e9 => ?_)
  obtain ⟨rfl, rfl⟩ := e9
  refine Wq.ifne (tgt := 21) dX4_cancel_8 (by decide) (fun q1 => ?_) (fun q1 => ?_)
  · replace h := h.1 (bI_1 q1)
    refine Wq.iload_n (x := x2) dX4_cancel_21 rfl ?_
    refine Wq.iconst (v := 0) dX4_cancel_22 (by decide) ?_
    refine Wq.bipush (v := 9) dX4_cancel_23 (by decide) ?_
    refine Wq.callSI (As := [pI x2, pI 0, pI 9]) dX4_cancel_25 fX4_isFromTo ml_X4_90 rfl (Nat.le_of_ble_eq_true rfl) (Nat.le_of_ble_eq_true rfl) (suX4_isFromTo trivial) (fun x7 m9 e9 => ?_)
    obtain ⟨rfl, rfl⟩ := e9
    refine Wq.ifne (tgt := 41) dX4_cancel_28 (by decide) (fun q2 => ?_) (fun q2 => ?_)
    · replace h := h.1 (bI_1 q2)
      refine Wq.aload_n (t := 10) (r := 8) (j := 0) dX4_cancel_41 rfl ?_
      refine Wq.callVV (As := []) dX4_cancel_42 fX4_save ml_X4_44 rfl (by decide) rfl (Nat.le_of_ble_eq_true rfl) (Nat.le_of_ble_eq_true rfl) h (fun m4 h => ?_)
      refine Wq.aload_n (t := 10) (r := 8) (j := 0) dX4_cancel_45 rfl ?_
      refine Wq.getf (v := pO 0 0 0) dX4_cancel_46 fl_X4_12 ⟨rfl, rfl, by decide⟩ rfl ?_
      refine Wq.iload_n (x := x1) dX4_cancel_49 rfl ?_
      refine Wq.iload_n (x := x2) dX4_cancel_50 rfl ?_
      refine Wq.callVI (As := [pI x1, pI x2]) dX4_cancel_51 fX1_cancelMorning ml_X4_99 rfl (by decide) rfl (Nat.le_of_ble_eq_true rfl) (Nat.le_of_ble_eq_true rfl) h (fun r5 m6 h => ?_)
      exact Wq.iret dX4_cancel_54 (⟨_, rfl, rfl⟩) h
    · replace h := h.2 (bI_0 q2)
      exact Wq.throw (E := 2) rfl dX4_cancel_31 dX4_cancel_34 dX4_cancel_35 dX4_cancel_37 dX4_cancel_40 (List.mem_of_getElem? (i := 6) rfl) (by decide) h
  · replace h := h.2 (bI_0 q1)
    exact Wq.throw (E := 3) rfl dX4_cancel_11 dX4_cancel_14 dX4_cancel_15 dX4_cancel_17 dX4_cancel_20 (List.mem_of_getElem? (i := 5) rfl) (by decide) h
set_option maxHeartbeats 4000000 in
set_option maxRecDepth 20000 in
theorem sgX4_test {g : GG} {d : Nat} {c n : Nat} {m : PM} {Q : Ou → PM → Nat → Nat → Prop} {x1 : Int32} {x2 : Int32} (h : (((¬ x1 < 0) ∧ (¬ (m.1 0 0 0 2) ≤ x1) → Wp g (d + 5) MX1_mayBeTested 0 [some (pO 0 0 0), some (pI x1)] [] m (cI fun r2 m3 => ((¬ r2 = 0 → Wp g (d + 5) MX4_save 0 [some (pO 10 8 0)] [] m3 (cV fun m6 => Wp g (d + 5) MX1_holdTest 0 [some (pO 0 0 0), some (pI x1), some (pI x2)] [] m6 (cI fun r7 m8 => Q (.inl (some (pI r7))) m8 c n))) ∧ (r2 = 0 → Q (.inr 1) m3 c n)))) ∧ (¬ ((¬ x1 < 0) ∧ (¬ (m.1 0 0 0 2) ≤ x1)) → Q (.inr 3) m c n))) : Wq g (d + 6) MX4_test c n 0 [some (pO 10 8 0), some (pI x1), some (pI x2)] [] m Q := by
  refine Wq.few (ls' := [some (pO 10 8 0), some (pI x1), some (pI x2)]) ⟨rfl, ⟨rfl, ⟨rfl, trivial⟩⟩⟩ ?_
  refine Wq.aload_n (t := 10) (r := 8) (j := 0) dX4_test_0 rfl ?_
  refine Wq.getf (v := pO 0 0 0) dX4_test_1 fl_X4_12 ⟨rfl, rfl, by decide⟩ rfl ?_
  refine Wq.iload_n (x := x1) dX4_test_4 rfl ?_
  refine Wq.callVI (As := [pI x1]) dX4_test_5 fX1_hasPupil ml_X4_59 rfl (by decide) rfl (Nat.le_of_ble_eq_true rfl) (Nat.le_of_ble_eq_true rfl) (suX1_hasPupil trivial) (fun x9 m9 e9 => ?_)
  obtain ⟨rfl, rfl⟩ := e9
  refine Wq.ifne (tgt := 21) dX4_test_8 (by decide) (fun q1 => ?_) (fun q1 => ?_)
  · replace h := h.1 (bI_1 q1)
    refine Wq.aload_n (t := 10) (r := 8) (j := 0) dX4_test_21 rfl ?_
    refine Wq.getf (v := pO 0 0 0) dX4_test_22 fl_X4_12 ⟨rfl, rfl, by decide⟩ rfl ?_
    refine Wq.iload_n (x := x1) dX4_test_25 rfl ?_
    refine Wq.callVI (As := [pI x1]) dX4_test_26 fX1_mayBeTested ml_X4_103 rfl (by decide) rfl (Nat.le_of_ble_eq_true rfl) (Nat.le_of_ble_eq_true rfl) h (fun r2 m3 h => ?_)
    refine Wq.ifne (tgt := 42) dX4_test_29 (by decide) (fun q4 => ?_) (fun q4 => ?_)
    · replace h := h.1 q4
      refine Wq.aload_n (t := 10) (r := 8) (j := 0) dX4_test_42 rfl ?_
      refine Wq.callVV (As := []) dX4_test_43 fX4_save ml_X4_44 rfl (by decide) rfl (Nat.le_of_ble_eq_true rfl) (Nat.le_of_ble_eq_true rfl) h (fun m6 h => ?_)
      refine Wq.aload_n (t := 10) (r := 8) (j := 0) dX4_test_46 rfl ?_
      refine Wq.getf (v := pO 0 0 0) dX4_test_47 fl_X4_12 ⟨rfl, rfl, by decide⟩ rfl ?_
      refine Wq.iload_n (x := x1) dX4_test_50 rfl ?_
      refine Wq.iload_n (x := x2) dX4_test_51 rfl ?_
      refine Wq.callVI (As := [pI x1, pI x2]) dX4_test_52 fX1_holdTest ml_X4_108 rfl (by decide) rfl (Nat.le_of_ble_eq_true rfl) (Nat.le_of_ble_eq_true rfl) h (fun r7 m8 h => ?_)
      exact Wq.iret dX4_test_55 (⟨_, rfl, rfl⟩) h
    · replace h := h.2 q4
      exact Wq.throw (E := 1) rfl dX4_test_32 dX4_test_35 dX4_test_36 dX4_test_38 dX4_test_41 (List.mem_of_getElem? (i := 7) rfl) (by decide) h
  · replace h := h.2 (bI_0 q1)
    exact Wq.throw (E := 3) rfl dX4_test_11 dX4_test_14 dX4_test_15 dX4_test_17 dX4_test_20 (List.mem_of_getElem? (i := 2) rfl) (by decide) h
set_option maxHeartbeats 4000000 in
set_option maxRecDepth 20000 in
theorem sgX4_next {g : GG} {d : Nat} {c n : Nat} {m : PM} {Q : Ou → PM → Nat → Nat → Prop}  (h : ((¬ 9999 ≤ (m.1 0 0 0 0) → Wp g (d + 5) MX4_save 0 [some (pO 10 8 0)] [] m (cV fun m3 => Wp g (d + 5) MX1_goOn 0 [some (pO 0 0 0)] [] m3 (cI fun r4 m5 => Q (.inl (some (pI r4))) m5 c n))) ∧ (¬ (¬ 9999 ≤ (m.1 0 0 0 0)) → Q (.inr 1) m c n))) : Wq g (d + 6) MX4_next c n 0 [some (pO 10 8 0)] [] m Q := by
  refine Wq.few (ls' := [some (pO 10 8 0)]) ⟨rfl, trivial⟩ ?_
  refine Wq.aload_n (t := 10) (r := 8) (j := 0) dX4_next_0 rfl ?_
  refine Wq.getf (v := pO 0 0 0) dX4_next_1 fl_X4_12 ⟨rfl, rfl, by decide⟩ rfl ?_
  refine Wq.callVI (As := []) dX4_next_4 fX1_mayGoOn ml_X4_112 rfl (by decide) rfl (Nat.le_of_ble_eq_true rfl) (Nat.le_of_ble_eq_true rfl) (suX1_mayGoOn trivial) (fun x6 m9 e9 => ?_)
  obtain ⟨rfl, rfl⟩ := e9
  refine Wq.ifne (tgt := 20) dX4_next_7 (by decide) (fun q1 => ?_) (fun q1 => ?_)
  · replace h := h.1 (bI_1 q1)
    refine Wq.aload_n (t := 10) (r := 8) (j := 0) dX4_next_20 rfl ?_
    refine Wq.callVV (As := []) dX4_next_21 fX4_save ml_X4_44 rfl (by decide) rfl (Nat.le_of_ble_eq_true rfl) (Nat.le_of_ble_eq_true rfl) h (fun m3 h => ?_)
    refine Wq.aload_n (t := 10) (r := 8) (j := 0) dX4_next_24 rfl ?_
    refine Wq.getf (v := pO 0 0 0) dX4_next_25 fl_X4_12 ⟨rfl, rfl, by decide⟩ rfl ?_
    refine Wq.callVI (As := []) dX4_next_28 fX1_goOn ml_X4_118 rfl (by decide) rfl (Nat.le_of_ble_eq_true rfl) (Nat.le_of_ble_eq_true rfl) h (fun r4 m5 h => ?_)
    exact Wq.iret dX4_next_31 (⟨_, rfl, rfl⟩) h
  · replace h := h.2 (bI_0 q1)
    exact Wq.throw (E := 1) rfl dX4_next_10 dX4_next_13 dX4_next_14 dX4_next_16 dX4_next_19 (List.mem_of_getElem? (i := 8) rfl) (by decide) h
set_option maxHeartbeats 4000000 in
set_option maxRecDepth 20000 in
theorem sgX4_set {g : GG} {d : Nat} {c n : Nat} {m : PM} {Q : Ou → PM → Nat → Nat → Prop} {x1 : Int32} {x2 : Int32} (h : (((¬ x1 < (0 : Int32)) ∧ (¬ (4 - 1) < x1) → (vp_in x1 4 ∧ (((¬ x2 < (0 : Int32)) ∧ (¬ (([20, 1, 9, 999] : List Int32).getD (ix x1) 0) < x2) → Wp g (d + 5) MX4_save 0 [some (pO 10 8 0)] [] m (cV fun m4 => (vp_in x1 4 ∧ (vp_in x1 4 ∧ Q (.inl (some (pI (m4.1 0 1 0 (ix x1))))) (setI m4 1 0 0 (ix x1) x2) c n)))) ∧ (¬ ((¬ x2 < (0 : Int32)) ∧ (¬ (([20, 1, 9, 999] : List Int32).getD (ix x1) 0) < x2)) → Q (.inr 2) m c n)))) ∧ (¬ ((¬ x1 < (0 : Int32)) ∧ (¬ (4 - 1) < x1)) → Q (.inr 3) m c n))) : Wq g (d + 6) MX4_set c n 0 [some (pO 10 8 0), some (pI x1), some (pI x2)] [] m Q := by
  refine Wq.few (ls' := [some (pO 10 8 0), some (pI x1), some (pI x2), none]) ⟨rfl, ⟨rfl, ⟨rfl, trivial⟩⟩⟩ ?_
  refine Wq.iload_n (x := x1) dX4_set_0 rfl ?_
  refine Wq.callSI (As := [pI x1]) dX4_set_1 fX4_isSetting ml_X4_121 rfl (Nat.le_of_ble_eq_true rfl) (Nat.le_of_ble_eq_true rfl) (suX4_isSetting trivial) (fun x6 m9 e9 => ?_)
  obtain ⟨rfl, rfl⟩ := e9
  refine Wq.ifne (tgt := 17) dX4_set_4 (by decide) (fun q1 => ?_) (fun q1 => ?_)
  · replace h := h.1 (bI_1 q1)
    refine Wq.iload_n (x := x2) dX4_set_17 rfl ?_
    refine Wq.iconst (v := 0) dX4_set_18 (by decide) ?_
    refine Wq.getsH dX4_set_19 gs_X4_126 ?_
    refine Wq.iload_n (x := x1) dX4_set_22 rfl ?_
    refine Wq.ialdH dX4_set_23 h.1 ?_
    replace h := h.2
    refine Wq.callSI (As := [pI x2, pI 0, pI (([20, 1, 9, 999] : List Int32).getD (ix x1) 0)]) dX4_set_24 fX4_isFromTo ml_X4_90 rfl (Nat.le_of_ble_eq_true rfl) (Nat.le_of_ble_eq_true rfl) (suX4_isFromTo trivial) (fun x5 m9 e9 => ?_)
    obtain ⟨rfl, rfl⟩ := e9
    refine Wq.ifne (tgt := 40) dX4_set_27 (by decide) (fun q2 => ?_) (fun q2 => ?_)
    · replace h := h.1 (bI_1 q2)
      refine Wq.aload_n (t := 10) (r := 8) (j := 0) dX4_set_40 rfl ?_
      refine Wq.callVV (As := []) dX4_set_41 fX4_save ml_X4_44 rfl (by decide) rfl (Nat.le_of_ble_eq_true rfl) (Nat.le_of_ble_eq_true rfl) h (fun m4 h => ?_)
      refine Wq.aload_n (t := 10) (r := 8) (j := 0) dX4_set_44 rfl ?_
      refine Wq.getf (v := pO 0 0 0) dX4_set_45 fl_X4_12 ⟨rfl, rfl, by decide⟩ rfl ?_
      refine Wq.getf (v := pO 1 0 0) dX4_set_48 fl_X4_132 ⟨rfl, rfl, by decide⟩ rfl ?_
      refine Wq.iload_n (x := x1) dX4_set_51 rfl ?_
      refine Wq.iald dX4_set_52 rfl h.1 ?_
      replace h := h.2
      refine Wq.istore_n (ls2 := [some (pO 10 8 0), some (pI x1), some (pI x2), some (pI (m4.1 0 1 0 (ix x1)))]) dX4_set_53 (by decide) rfl ?_
      refine Wq.aload_n (t := 10) (r := 8) (j := 0) dX4_set_54 rfl ?_
      refine Wq.getf (v := pO 0 0 0) dX4_set_55 fl_X4_12 ⟨rfl, rfl, by decide⟩ rfl ?_
      refine Wq.getf (v := pO 1 0 0) dX4_set_58 fl_X4_132 ⟨rfl, rfl, by decide⟩ rfl ?_
      refine Wq.iload_n (x := x1) dX4_set_61 rfl ?_
      refine Wq.iload_n (x := x2) dX4_set_62 rfl ?_
      refine Wq.iast dX4_set_63 rfl h.1 ?_
      replace h := h.2
      refine Wq.iload_n (x := (m4.1 0 1 0 (ix x1))) dX4_set_64 rfl ?_
      exact Wq.iret dX4_set_65 (⟨_, rfl, rfl⟩) h
    · replace h := h.2 (bI_0 q2)
      exact Wq.throw (E := 2) rfl dX4_set_30 dX4_set_33 dX4_set_34 dX4_set_36 dX4_set_39 (List.mem_of_getElem? (i := 10) rfl) (by decide) h
  · replace h := h.2 (bI_0 q1)
    exact Wq.throw (E := 3) rfl dX4_set_7 dX4_set_10 dX4_set_11 dX4_set_13 dX4_set_16 (List.mem_of_getElem? (i := 9) rfl) (by decide) h
set_option maxHeartbeats 4000000 in
set_option maxRecDepth 20000 in
theorem sgX4_append {g : GG} {d : Nat} {c n : Nat} {m : PM} {Q : Ou → PM → Nat → Nat → Prop} {x1 : Int32} (h : (((¬ x1 < (33 : Int32)) ∧ (¬ (126 : Int32) < x1) → ((¬ 60 ≤ (m.1 8 12 0 1) → (vp_in (m.1 8 12 0 1) 60 ∧ Q (.inl (some (pI ((setI (setI m 13 8 0 (ix (m.1 8 12 0 1)) x1) 12 8 0 1 (((setI m 13 8 0 (ix (m.1 8 12 0 1)) x1).1 8 12 0 1) + 1)).1 8 12 0 1)))) (setI (setI m 13 8 0 (ix (m.1 8 12 0 1)) x1) 12 8 0 1 (((setI m 13 8 0 (ix (m.1 8 12 0 1)) x1).1 8 12 0 1) + 1)) c n)) ∧ (¬ (¬ 60 ≤ (m.1 8 12 0 1)) → Q (.inr 1) m c n))) ∧ (¬ ((¬ x1 < (33 : Int32)) ∧ (¬ (126 : Int32) < x1)) → Q (.inr 2) m c n))) : Wq g (d + 6) MX4_append c n 0 [some (pO 10 8 0), some (pI x1)] [] m Q := by
  refine Wq.few (ls' := [some (pO 10 8 0), some (pI x1)]) ⟨rfl, ⟨rfl, trivial⟩⟩ ?_
  refine Wq.iload_n (x := x1) dX4_append_0 rfl ?_
  refine Wq.bipush (v := 33) dX4_append_1 (by decide) ?_
  refine Wq.bipush (v := 126) dX4_append_3 (by decide) ?_
  refine Wq.callSI (As := [pI x1, pI 33, pI 126]) dX4_append_5 fX4_isFromTo ml_X4_90 rfl (Nat.le_of_ble_eq_true rfl) (Nat.le_of_ble_eq_true rfl) (suX4_isFromTo trivial) (fun x4 m9 e9 => ?_)
  obtain ⟨rfl, rfl⟩ := e9
  refine Wq.ifne (tgt := 21) dX4_append_8 (by decide) (fun q1 => ?_) (fun q1 => ?_)
  · replace h := h.1 (bI_1 q1)
    refine Wq.aload_n (t := 10) (r := 8) (j := 0) dX4_append_21 rfl ?_
    refine Wq.getf (v := pO 12 8 0) dX4_append_22 fl_X4_30 ⟨rfl, rfl, by decide⟩ rfl ?_
    refine Wq.callVI (As := []) dX4_append_25 fX2_hasRoom ml_X4_137 rfl (by decide) rfl (Nat.le_of_ble_eq_true rfl) (Nat.le_of_ble_eq_true rfl) (suX2_hasRoom trivial) (fun x3 m9 e9 => ?_)
    obtain ⟨rfl, rfl⟩ := e9
    refine Wq.ifne (tgt := 41) dX4_append_28 (by decide) (fun q2 => ?_) (fun q2 => ?_)
    · replace h := h.1 (bI_1 q2)
      refine Wq.aload_n (t := 10) (r := 8) (j := 0) dX4_append_41 rfl ?_
      refine Wq.getf (v := pO 12 8 0) dX4_append_42 fl_X4_30 ⟨rfl, rfl, by decide⟩ rfl ?_
      refine Wq.iload_n (x := x1) dX4_append_45 rfl ?_
      refine Wq.callVV (As := [pI x1]) dX4_append_46 fX2_write ml_X4_142 rfl (by decide) rfl (Nat.le_of_ble_eq_true rfl) (Nat.le_of_ble_eq_true rfl) ?_ (fun _ h9 => h9)
      refine Wq.few (ls' := [some (pO 12 8 0), some (pI x1)]) ⟨rfl, ⟨rfl, trivial⟩⟩ ?_
      refine Wq.aload_n (t := 12) (r := 8) (j := 0) dX2_write_0 rfl ?_
      refine Wq.getf (v := pO 13 8 0) dX2_write_1 fl_X2_9 ⟨rfl, rfl, by decide⟩ rfl ?_
      refine Wq.aload_n (t := 12) (r := 8) (j := 0) dX2_write_4 rfl ?_
      refine Wq.getf (v := pI (m.1 8 12 0 1)) dX2_write_5 fl_X2_15 ⟨rfl, rfl, by decide⟩ rfl ?_
      refine Wq.iload_n (x := x1) dX2_write_8 rfl ?_
      refine Wq.iast dX2_write_9 rfl h.1 ?_
      replace h := h.2
      refine Wq.aload_n (t := 12) (r := 8) (j := 0) dX2_write_10 rfl ?_
      refine Wq.dup dX2_write_11 rfl ?_
      refine Wq.getf (v := pI ((setI m 13 8 0 (ix (m.1 8 12 0 1)) x1).1 8 12 0 1)) dX2_write_12 fl_X2_15 ⟨rfl, rfl, by decide⟩ rfl ?_
      refine Wq.iconst (v := 1) dX2_write_15 (by decide) ?_
      refine Wq.iadd dX2_write_16 ?_
      refine Wq.putI dX2_write_17 fw_X2_15 ⟨rfl, rfl, by decide⟩ ⟨rfl, by decide, by decide⟩ ⟨rfl, rfl⟩ ?_
      refine Wq.vretV dX2_write_20 rfl ?_
      refine Wq.aload_n (t := 10) (r := 8) (j := 0) dX4_append_49 rfl ?_
      refine Wq.getf (v := pO 12 8 0) dX4_append_50 fl_X4_30 ⟨rfl, rfl, by decide⟩ rfl ?_
      refine Wq.getf (v := pI ((setI (setI m 13 8 0 (ix (m.1 8 12 0 1)) x1) 12 8 0 1 (((setI m 13 8 0 (ix (m.1 8 12 0 1)) x1).1 8 12 0 1) + 1)).1 8 12 0 1)) dX4_append_53 fl_X4_146 ⟨rfl, rfl, by decide⟩ rfl ?_
      exact Wq.iret dX4_append_56 (⟨_, rfl, rfl⟩) h
    · replace h := h.2 (bI_0 q2)
      exact Wq.throw (E := 1) rfl dX4_append_31 dX4_append_34 dX4_append_35 dX4_append_37 dX4_append_40 (List.mem_of_getElem? (i := 12) rfl) (by decide) h
  · replace h := h.2 (bI_0 q1)
    exact Wq.throw (E := 2) rfl dX4_append_11 dX4_append_14 dX4_append_15 dX4_append_17 dX4_append_20 (List.mem_of_getElem? (i := 11) rfl) (by decide) h
set_option maxHeartbeats 4000000 in
set_option maxRecDepth 20000 in
theorem sgX4_undo {g : GG} {d : Nat} {c n : Nat} {m : PM} {Q : Ou → PM → Nat → Nat → Prop}  (h : (((¬ (m.1 8 10 0 3) < (1 : Int32)) ∧ (¬ (6 : Int32) < (m.1 8 10 0 3)) → (vp_in ((setI m 10 8 0 3 ((m.1 8 10 0 3) - 1)).1 8 10 0 3) 6 ∧ ((ix ((setI m 10 8 0 3 ((m.1 8 10 0 3) - 1)).1 8 11 0 (ix ((setI m 10 8 0 3 ((m.1 8 10 0 3) - 1)).1 8 10 0 3)))) < 8 ∧ Wp g (d + 5) MX1_copyFrom 0 [some (pO 0 0 0), some (pO 0 (ix ((setI m 10 8 0 3 ((m.1 8 10 0 3) - 1)).1 8 11 0 (ix ((setI m 10 8 0 3 ((m.1 8 10 0 3) - 1)).1 8 10 0 3)))) 0)] [] (setI m 10 8 0 3 ((m.1 8 10 0 3) - 1)) (cV fun m3 => Q (.inl (some (pI (m3.1 8 10 0 3)))) m3 c n)))) ∧ (¬ ((¬ (m.1 8 10 0 3) < (1 : Int32)) ∧ (¬ (6 : Int32) < (m.1 8 10 0 3))) → Q (.inr 1) m c n))) : Wq g (d + 6) MX4_undo c n 0 [some (pO 10 8 0)] [] m Q := by
  refine Wq.few (ls' := [some (pO 10 8 0)]) ⟨rfl, trivial⟩ ?_
  refine Wq.aload_n (t := 10) (r := 8) (j := 0) dX4_undo_0 rfl ?_
  refine Wq.getf (v := pI (m.1 8 10 0 3)) dX4_undo_1 fl_X4_23 ⟨rfl, rfl, by decide⟩ rfl ?_
  refine Wq.iconst (v := 1) dX4_undo_4 (by decide) ?_
  refine Wq.aload_n (t := 10) (r := 8) (j := 0) dX4_undo_5 rfl ?_
  refine Wq.getf (v := pO 11 8 0) dX4_undo_6 fl_X4_19 ⟨rfl, rfl, by decide⟩ rfl ?_
  refine Wq.alen (v := 6) dX4_undo_9 rfl (by decide) rfl ?_
  refine Wq.callSI (As := [pI (m.1 8 10 0 3), pI 1, pI 6]) dX4_undo_10 fX4_isFromTo ml_X4_90 rfl (Nat.le_of_ble_eq_true rfl) (Nat.le_of_ble_eq_true rfl) (suX4_isFromTo trivial) (fun x4 m9 e9 => ?_)
  obtain ⟨rfl, rfl⟩ := e9
  refine Wq.ifne (tgt := 26) dX4_undo_13 (by decide) (fun q1 => ?_) (fun q1 => ?_)
  · replace h := h.1 (bI_1 q1)
    refine Wq.aload_n (t := 10) (r := 8) (j := 0) dX4_undo_26 rfl ?_
    refine Wq.dup dX4_undo_27 rfl ?_
    refine Wq.getf (v := pI (m.1 8 10 0 3)) dX4_undo_28 fl_X4_23 ⟨rfl, rfl, by decide⟩ rfl ?_
    refine Wq.iconst (v := 1) dX4_undo_31 (by decide) ?_
    refine Wq.isub dX4_undo_32 ?_
    refine Wq.putI dX4_undo_33 fw_X4_23 ⟨rfl, rfl, by decide⟩ ⟨rfl, by decide, by decide⟩ ⟨rfl, rfl⟩ ?_
    refine Wq.aload_n (t := 10) (r := 8) (j := 0) dX4_undo_36 rfl ?_
    refine Wq.getf (v := pO 0 0 0) dX4_undo_37 fl_X4_12 ⟨rfl, rfl, by decide⟩ rfl ?_
    refine Wq.aload_n (t := 10) (r := 8) (j := 0) dX4_undo_40 rfl ?_
    refine Wq.getf (v := pO 11 8 0) dX4_undo_41 fl_X4_19 ⟨rfl, rfl, by decide⟩ rfl ?_
    refine Wq.aload_n (t := 10) (r := 8) (j := 0) dX4_undo_44 rfl ?_
    refine Wq.getf (v := pI ((setI m 10 8 0 3 ((m.1 8 10 0 3) - 1)).1 8 10 0 3)) dX4_undo_45 fl_X4_23 ⟨rfl, rfl, by decide⟩ rfl ?_
    refine Wq.aaldS dX4_undo_48 h.1 h.2.1 ?_
    replace h := h.2.2
    refine Wq.callVV (As := [pO 0 (ix ((setI m 10 8 0 3 ((m.1 8 10 0 3) - 1)).1 8 11 0 (ix ((setI m 10 8 0 3 ((m.1 8 10 0 3) - 1)).1 8 10 0 3)))) 0]) dX4_undo_49 fX1_copyFrom ml_X4_165 rfl (by decide) rfl (Nat.le_of_ble_eq_true rfl) (Nat.le_of_ble_eq_true rfl) h (fun m3 h => ?_)
    refine Wq.aload_n (t := 10) (r := 8) (j := 0) dX4_undo_52 rfl ?_
    refine Wq.getf (v := pI (m3.1 8 10 0 3)) dX4_undo_53 fl_X4_23 ⟨rfl, rfl, by decide⟩ rfl ?_
    exact Wq.iret dX4_undo_56 (⟨_, rfl, rfl⟩) h
  · replace h := h.2 (bI_0 q1)
    exact Wq.throw (E := 1) rfl dX4_undo_16 dX4_undo_19 dX4_undo_20 dX4_undo_22 dX4_undo_25 (List.mem_of_getElem? (i := 14) rfl) (by decide) h
set_option maxHeartbeats 4000000 in
set_option maxRecDepth 20000 in
theorem sgX4_pupil {g : GG} {d : Nat} {c n : Nat} {m : PM} {Q : Ou → PM → Nat → Nat → Prop} {x1 : Int32} {x2 : Int32} (h : (((¬ x1 < 0) ∧ (¬ (m.1 0 0 0 2) ≤ x1) → (((¬ x2 < (0 : Int32)) ∧ (¬ (10 : Int32) < x2) → Wp g (d + 5) MX1_pupilProperty 0 [some (pO 0 0 0), some (pI x1), some (pI x2)] [] m (cI fun r3 m4 => Q (.inl (some (pI r3))) m4 c n)) ∧ (¬ ((¬ x2 < (0 : Int32)) ∧ (¬ (10 : Int32) < x2)) → Q (.inr 2) m c n))) ∧ (¬ ((¬ x1 < 0) ∧ (¬ (m.1 0 0 0 2) ≤ x1)) → Q (.inr 3) m c n))) : Wq g (d + 6) MX4_pupil c n 0 [some (pO 10 8 0), some (pI x1), some (pI x2)] [] m Q := by
  refine Wq.few (ls' := [some (pO 10 8 0), some (pI x1), some (pI x2)]) ⟨rfl, ⟨rfl, ⟨rfl, trivial⟩⟩⟩ ?_
  refine Wq.aload_n (t := 10) (r := 8) (j := 0) dX4_pupil_0 rfl ?_
  refine Wq.getf (v := pO 0 0 0) dX4_pupil_1 fl_X4_12 ⟨rfl, rfl, by decide⟩ rfl ?_
  refine Wq.iload_n (x := x1) dX4_pupil_4 rfl ?_
  refine Wq.callVI (As := [pI x1]) dX4_pupil_5 fX1_hasPupil ml_X4_59 rfl (by decide) rfl (Nat.le_of_ble_eq_true rfl) (Nat.le_of_ble_eq_true rfl) (suX1_hasPupil trivial) (fun x6 m9 e9 => ?_)
  obtain ⟨rfl, rfl⟩ := e9
  refine Wq.ifne (tgt := 21) dX4_pupil_8 (by decide) (fun q1 => ?_) (fun q1 => ?_)
  · replace h := h.1 (bI_1 q1)
    refine Wq.iload_n (x := x2) dX4_pupil_21 rfl ?_
    refine Wq.iconst (v := 0) dX4_pupil_22 (by decide) ?_
    refine Wq.bipush (v := 10) dX4_pupil_23 (by decide) ?_
    refine Wq.callSI (As := [pI x2, pI 0, pI 10]) dX4_pupil_25 fX4_isFromTo ml_X4_90 rfl (Nat.le_of_ble_eq_true rfl) (Nat.le_of_ble_eq_true rfl) (suX4_isFromTo trivial) (fun x5 m9 e9 => ?_)
    obtain ⟨rfl, rfl⟩ := e9
    refine Wq.ifne (tgt := 41) dX4_pupil_28 (by decide) (fun q2 => ?_) (fun q2 => ?_)
    · replace h := h.1 (bI_1 q2)
      refine Wq.aload_n (t := 10) (r := 8) (j := 0) dX4_pupil_41 rfl ?_
      refine Wq.getf (v := pO 0 0 0) dX4_pupil_42 fl_X4_12 ⟨rfl, rfl, by decide⟩ rfl ?_
      refine Wq.iload_n (x := x1) dX4_pupil_45 rfl ?_
      refine Wq.iload_n (x := x2) dX4_pupil_46 rfl ?_
      refine Wq.callVI (As := [pI x1, pI x2]) dX4_pupil_47 fX1_pupilProperty ml_X4_171 rfl (by decide) rfl (Nat.le_of_ble_eq_true rfl) (Nat.le_of_ble_eq_true rfl) h (fun r3 m4 h => ?_)
      exact Wq.iret dX4_pupil_50 (⟨_, rfl, rfl⟩) h
    · replace h := h.2 (bI_0 q2)
      exact Wq.throw (E := 2) rfl dX4_pupil_31 dX4_pupil_34 dX4_pupil_35 dX4_pupil_37 dX4_pupil_40 (List.mem_of_getElem? (i := 15) rfl) (by decide) h
  · replace h := h.2 (bI_0 q1)
    exact Wq.throw (E := 3) rfl dX4_pupil_11 dX4_pupil_14 dX4_pupil_15 dX4_pupil_17 dX4_pupil_20 (List.mem_of_getElem? (i := 2) rfl) (by decide) h
set_option maxHeartbeats 4000000 in
set_option maxRecDepth 20000 in
theorem sgX4_examiner {g : GG} {d : Nat} {c n : Nat} {m : PM} {Q : Ou → PM → Nat → Nat → Prop} {x1 : Int32} {x2 : Int32} (h : (((¬ x1 < 0) ∧ (¬ (m.1 0 0 0 1) ≤ x1) → (((¬ x2 < (0 : Int32)) ∧ (¬ (8 : Int32) < x2) → Wp g (d + 5) MX1_examinerProperty 0 [some (pO 0 0 0), some (pI x1), some (pI x2)] [] m (cI fun r3 m4 => Q (.inl (some (pI r3))) m4 c n)) ∧ (¬ ((¬ x2 < (0 : Int32)) ∧ (¬ (8 : Int32) < x2)) → Q (.inr 2) m c n))) ∧ (¬ ((¬ x1 < 0) ∧ (¬ (m.1 0 0 0 1) ≤ x1)) → Q (.inr 3) m c n))) : Wq g (d + 6) MX4_examiner c n 0 [some (pO 10 8 0), some (pI x1), some (pI x2)] [] m Q := by
  refine Wq.few (ls' := [some (pO 10 8 0), some (pI x1), some (pI x2)]) ⟨rfl, ⟨rfl, ⟨rfl, trivial⟩⟩⟩ ?_
  refine Wq.aload_n (t := 10) (r := 8) (j := 0) dX4_examiner_0 rfl ?_
  refine Wq.getf (v := pO 0 0 0) dX4_examiner_1 fl_X4_12 ⟨rfl, rfl, by decide⟩ rfl ?_
  refine Wq.iload_n (x := x1) dX4_examiner_4 rfl ?_
  refine Wq.callVI (As := [pI x1]) dX4_examiner_5 fX1_hasExaminer ml_X4_85 rfl (by decide) rfl (Nat.le_of_ble_eq_true rfl) (Nat.le_of_ble_eq_true rfl) (suX1_hasExaminer trivial) (fun x6 m9 e9 => ?_)
  obtain ⟨rfl, rfl⟩ := e9
  refine Wq.ifne (tgt := 21) dX4_examiner_8 (by decide) (fun q1 => ?_) (fun q1 => ?_)
  · replace h := h.1 (bI_1 q1)
    refine Wq.iload_n (x := x2) dX4_examiner_21 rfl ?_
    refine Wq.iconst (v := 0) dX4_examiner_22 (by decide) ?_
    refine Wq.bipush (v := 8) dX4_examiner_23 (by decide) ?_
    refine Wq.callSI (As := [pI x2, pI 0, pI 8]) dX4_examiner_25 fX4_isFromTo ml_X4_90 rfl (Nat.le_of_ble_eq_true rfl) (Nat.le_of_ble_eq_true rfl) (suX4_isFromTo trivial) (fun x5 m9 e9 => ?_)
    obtain ⟨rfl, rfl⟩ := e9
    refine Wq.ifne (tgt := 41) dX4_examiner_28 (by decide) (fun q2 => ?_) (fun q2 => ?_)
    · replace h := h.1 (bI_1 q2)
      refine Wq.aload_n (t := 10) (r := 8) (j := 0) dX4_examiner_41 rfl ?_
      refine Wq.getf (v := pO 0 0 0) dX4_examiner_42 fl_X4_12 ⟨rfl, rfl, by decide⟩ rfl ?_
      refine Wq.iload_n (x := x1) dX4_examiner_45 rfl ?_
      refine Wq.iload_n (x := x2) dX4_examiner_46 rfl ?_
      refine Wq.callVI (As := [pI x1, pI x2]) dX4_examiner_47 fX1_examinerProperty ml_X4_176 rfl (by decide) rfl (Nat.le_of_ble_eq_true rfl) (Nat.le_of_ble_eq_true rfl) h (fun r3 m4 h => ?_)
      exact Wq.iret dX4_examiner_50 (⟨_, rfl, rfl⟩) h
    · replace h := h.2 (bI_0 q2)
      exact Wq.throw (E := 2) rfl dX4_examiner_31 dX4_examiner_34 dX4_examiner_35 dX4_examiner_37 dX4_examiner_40 (List.mem_of_getElem? (i := 16) rfl) (by decide) h
  · replace h := h.2 (bI_0 q1)
    exact Wq.throw (E := 3) rfl dX4_examiner_11 dX4_examiner_14 dX4_examiner_15 dX4_examiner_17 dX4_examiner_20 (List.mem_of_getElem? (i := 5) rfl) (by decide) h
set_option maxHeartbeats 4000000 in
set_option maxRecDepth 20000 in
theorem sgX4_slot {g : GG} {d : Nat} {c n : Nat} {m : PM} {Q : Ou → PM → Nat → Nat → Prop} {x1 : Int32} {x2 : Int32} {x3 : Int32} (h : (((¬ x1 < 0) ∧ (¬ (m.1 0 0 0 1) ≤ x1) → ((¬ ((¬ x2 < (0 : Int32)) ∧ (¬ (9 : Int32) < x2)) → Q (.inr 2) m c n) ∧ ((¬ x2 < (0 : Int32)) ∧ (¬ (9 : Int32) < x2) → (((¬ x3 < (0 : Int32)) ∧ (¬ (3 : Int32) < x3) → (vp_in (((x2 * 16) + (x3 * 4)) + x1) 160 ∧ Q (.inl (some (pI (m.1 0 2 0 (ix (((x2 * 16) + (x3 * 4)) + x1)))))) m c n)) ∧ (¬ ((¬ x3 < (0 : Int32)) ∧ (¬ (3 : Int32) < x3)) → Q (.inr 2) m c n))))) ∧ (¬ ((¬ x1 < 0) ∧ (¬ (m.1 0 0 0 1) ≤ x1)) → Q (.inr 3) m c n))) : Wq g (d + 6) MX4_slot c n 0 [some (pO 10 8 0), some (pI x1), some (pI x2), some (pI x3)] [] m Q := by
  refine Wq.few (ls' := [some (pO 10 8 0), some (pI x1), some (pI x2), some (pI x3)]) ⟨rfl, ⟨rfl, ⟨rfl, ⟨rfl, trivial⟩⟩⟩⟩ ?_
  refine Wq.aload_n (t := 10) (r := 8) (j := 0) dX4_slot_0 rfl ?_
  refine Wq.getf (v := pO 0 0 0) dX4_slot_1 fl_X4_12 ⟨rfl, rfl, by decide⟩ rfl ?_
  refine Wq.iload_n (x := x1) dX4_slot_4 rfl ?_
  refine Wq.callVI (As := [pI x1]) dX4_slot_5 fX1_hasExaminer ml_X4_85 rfl (by decide) rfl (Nat.le_of_ble_eq_true rfl) (Nat.le_of_ble_eq_true rfl) (suX1_hasExaminer trivial) (fun x7 m9 e9 => ?_)
  obtain ⟨rfl, rfl⟩ := e9
  refine Wq.ifne (tgt := 21) dX4_slot_8 (by decide) (fun q1 => ?_) (fun q1 => ?_)
  · replace h := h.1 (bI_1 q1)
    refine Wq.iload_n (x := x2) dX4_slot_21 rfl ?_
    refine Wq.iconst (v := 0) dX4_slot_22 (by decide) ?_
    refine Wq.bipush (v := 9) dX4_slot_23 (by decide) ?_
    refine Wq.callSI (As := [pI x2, pI 0, pI 9]) dX4_slot_25 fX4_isFromTo ml_X4_90 rfl (Nat.le_of_ble_eq_true rfl) (Nat.le_of_ble_eq_true rfl) (suX4_isFromTo trivial) (fun x6 m9 e9 => ?_)
    obtain ⟨rfl, rfl⟩ := e9
    refine Wq.ifeq (tgt := 40) dX4_slot_28 (by decide) (fun q2 => ?_) (fun q2 => ?_)
    · replace h := h.1 (bI_0 q2)
      exact Wq.throw (E := 2) rfl dX4_slot_40 dX4_slot_43 dX4_slot_44 dX4_slot_46 dX4_slot_49 (List.mem_of_getElem? (i := 17) rfl) (by decide) h
    · replace h := h.2 (bI_1 q2)
      refine Wq.iload_n (x := x3) dX4_slot_31 rfl ?_
      refine Wq.iconst (v := 0) dX4_slot_32 (by decide) ?_
      refine Wq.iconst (v := 3) dX4_slot_33 (by decide) ?_
      refine Wq.callSI (As := [pI x3, pI 0, pI 3]) dX4_slot_34 fX4_isFromTo ml_X4_90 rfl (Nat.le_of_ble_eq_true rfl) (Nat.le_of_ble_eq_true rfl) (suX4_isFromTo trivial) (fun x5 m9 e9 => ?_)
      obtain ⟨rfl, rfl⟩ := e9
      refine Wq.ifne (tgt := 50) dX4_slot_37 (by decide) (fun q3 => ?_) (fun q3 => ?_)
      · replace h := h.1 (bI_1 q3)
        refine Wq.aload_n (t := 10) (r := 8) (j := 0) dX4_slot_50 rfl ?_
        refine Wq.getf (v := pO 0 0 0) dX4_slot_51 fl_X4_12 ⟨rfl, rfl, by decide⟩ rfl ?_
        refine Wq.getf (v := pO 2 0 0) dX4_slot_54 fl_X4_181 ⟨rfl, rfl, by decide⟩ rfl ?_
        refine Wq.iload_n (x := x1) dX4_slot_57 rfl ?_
        refine Wq.iload_n (x := x2) dX4_slot_58 rfl ?_
        refine Wq.iload_n (x := x3) dX4_slot_59 rfl ?_
        refine Wq.callSI (As := [pI x1, pI x2, pI x3]) dX4_slot_60 fX4_cellAt ml_X4_184 rfl (Nat.le_of_ble_eq_true rfl) (Nat.le_of_ble_eq_true rfl) (suX4_cellAt trivial) (fun x4 m9 e9 => ?_)
        obtain ⟨rfl, rfl⟩ := e9
        refine Wq.iald dX4_slot_63 rfl h.1 ?_
        replace h := h.2
        exact Wq.iret dX4_slot_64 (⟨_, rfl, rfl⟩) h
      · replace h := h.2 (bI_0 q3)
        exact Wq.throw (E := 2) rfl dX4_slot_40 dX4_slot_43 dX4_slot_44 dX4_slot_46 dX4_slot_49 (List.mem_of_getElem? (i := 17) rfl) (by decide) h
  · replace h := h.2 (bI_0 q1)
    exact Wq.throw (E := 3) rfl dX4_slot_11 dX4_slot_14 dX4_slot_15 dX4_slot_17 dX4_slot_20 (List.mem_of_getElem? (i := 5) rfl) (by decide) h
set_option maxHeartbeats 4000000 in
set_option maxRecDepth 20000 in
theorem sgX4_count {g : GG} {d : Nat} {c n : Nat} {m : PM} {Q : Ou → PM → Nat → Nat → Prop} {x1 : Int32} (h : (((¬ x1 < (0 : Int32)) ∧ (¬ (14 : Int32) < x1) → ((¬ x1 = 14 → Wp g (d + 5) MX1_number 0 [some (pO 0 0 0), some (pI x1)] [] m (cI fun r3 m4 => Q (.inl (some (pI r3))) m4 c n)) ∧ (x1 = 14 → Q (.inl (some (pI (m.1 8 10 0 3)))) m c n))) ∧ (¬ ((¬ x1 < (0 : Int32)) ∧ (¬ (14 : Int32) < x1)) → Q (.inr 2) m c n))) : Wq g (d + 6) MX4_count c n 0 [some (pO 10 8 0), some (pI x1)] [] m Q := by
  refine Wq.few (ls' := [some (pO 10 8 0), some (pI x1)]) ⟨rfl, ⟨rfl, trivial⟩⟩ ?_
  refine Wq.iload_n (x := x1) dX4_count_0 rfl ?_
  refine Wq.iconst (v := 0) dX4_count_1 (by decide) ?_
  refine Wq.bipush (v := 14) dX4_count_2 (by decide) ?_
  refine Wq.callSI (As := [pI x1, pI 0, pI 14]) dX4_count_4 fX4_isFromTo ml_X4_90 rfl (Nat.le_of_ble_eq_true rfl) (Nat.le_of_ble_eq_true rfl) (suX4_isFromTo trivial) (fun x5 m9 e9 => ?_)
  obtain ⟨rfl, rfl⟩ := e9
  refine Wq.ifne (tgt := 20) dX4_count_7 (by decide) (fun q1 => ?_) (fun q1 => ?_)
  · replace h := h.1 (bI_1 q1)
    refine Wq.iload_n (x := x1) dX4_count_20 rfl ?_
    refine Wq.bipush (v := 14) dX4_count_21 (by decide) ?_
    refine Wq.icmpne (tgt := 33) dX4_count_23 (by decide) (fun q2 => ?_) (fun q2 => ?_)
    · replace h := h.1 q2
      refine Wq.aload_n (t := 10) (r := 8) (j := 0) dX4_count_33 rfl ?_
      refine Wq.getf (v := pO 0 0 0) dX4_count_34 fl_X4_12 ⟨rfl, rfl, by decide⟩ rfl ?_
      refine Wq.iload_n (x := x1) dX4_count_37 rfl ?_
      refine Wq.callVI (As := [pI x1]) dX4_count_38 fX1_number ml_X4_190 rfl (by decide) rfl (Nat.le_of_ble_eq_true rfl) (Nat.le_of_ble_eq_true rfl) h (fun r3 m4 h => ?_)
      exact Wq.iret dX4_count_41 (⟨_, rfl, rfl⟩) h
    · replace h := h.2 q2
      refine Wq.aload_n (t := 10) (r := 8) (j := 0) dX4_count_26 rfl ?_
      refine Wq.getf (v := pI (m.1 8 10 0 3)) dX4_count_27 fl_X4_23 ⟨rfl, rfl, by decide⟩ rfl ?_
      refine Wq.goto (tgt := 41) dX4_count_30 (by decide) ?_
      exact Wq.iret dX4_count_41 (⟨_, rfl, rfl⟩) h
  · replace h := h.2 (bI_0 q1)
    exact Wq.throw (E := 2) rfl dX4_count_10 dX4_count_13 dX4_count_14 dX4_count_16 dX4_count_19 (List.mem_of_getElem? (i := 18) rfl) (by decide) h
set_option maxHeartbeats 4000000 in
set_option maxRecDepth 20000 in
theorem sgX4_setting {g : GG} {d : Nat} {c n : Nat} {m : PM} {Q : Ou → PM → Nat → Nat → Prop} {x1 : Int32} (h : (((¬ x1 < (0 : Int32)) ∧ (¬ (4 - 1) < x1) → (vp_in x1 4 ∧ Q (.inl (some (pI (m.1 0 1 0 (ix x1))))) m c n)) ∧ (¬ ((¬ x1 < (0 : Int32)) ∧ (¬ (4 - 1) < x1)) → Q (.inr 3) m c n))) : Wq g (d + 6) MX4_setting c n 0 [some (pO 10 8 0), some (pI x1)] [] m Q := by
  refine Wq.few (ls' := [some (pO 10 8 0), some (pI x1)]) ⟨rfl, ⟨rfl, trivial⟩⟩ ?_
  refine Wq.iload_n (x := x1) dX4_setting_0 rfl ?_
  refine Wq.callSI (As := [pI x1]) dX4_setting_1 fX4_isSetting ml_X4_121 rfl (Nat.le_of_ble_eq_true rfl) (Nat.le_of_ble_eq_true rfl) (suX4_isSetting trivial) (fun x2 m9 e9 => ?_)
  obtain ⟨rfl, rfl⟩ := e9
  refine Wq.ifne (tgt := 17) dX4_setting_4 (by decide) (fun q1 => ?_) (fun q1 => ?_)
  · replace h := h.1 (bI_1 q1)
    refine Wq.aload_n (t := 10) (r := 8) (j := 0) dX4_setting_17 rfl ?_
    refine Wq.getf (v := pO 0 0 0) dX4_setting_18 fl_X4_12 ⟨rfl, rfl, by decide⟩ rfl ?_
    refine Wq.getf (v := pO 1 0 0) dX4_setting_21 fl_X4_132 ⟨rfl, rfl, by decide⟩ rfl ?_
    refine Wq.iload_n (x := x1) dX4_setting_24 rfl ?_
    refine Wq.iald dX4_setting_25 rfl h.1 ?_
    replace h := h.2
    exact Wq.iret dX4_setting_26 (⟨_, rfl, rfl⟩) h
  · replace h := h.2 (bI_0 q1)
    exact Wq.throw (E := 3) rfl dX4_setting_7 dX4_setting_10 dX4_setting_11 dX4_setting_13 dX4_setting_16 (List.mem_of_getElem? (i := 9) rfl) (by decide) h
set_option maxHeartbeats 4000000 in
set_option maxRecDepth 20000 in
theorem sgX4_earliest {g : GG} {d : Nat} {c n : Nat} {m : PM} {Q : Ou → PM → Nat → Nat → Prop} {x1 : Int32} {x2 : Int32} (h : (((¬ x1 < 0) ∧ (¬ (m.1 0 0 0 2) ≤ x1) → (((¬ x2 < (0 : Int32)) ∧ (¬ (2 : Int32) < x2) → Wp g (d + 5) MX1_earliestCell 0 [some (pO 0 0 0), some (pI x1)] [] m (cI fun r3 m4 => Q (.inl (some (pI ((if ¬ r3 = (-1) then (if x2 = 0 then (r3 / 16) else (if x2 = 1 then (irm (r3 / 4) 4) else (irm r3 4))) else (-1)) : Int32)))) m4 c n)) ∧ (¬ ((¬ x2 < (0 : Int32)) ∧ (¬ (2 : Int32) < x2)) → Q (.inr 2) m c n))) ∧ (¬ ((¬ x1 < 0) ∧ (¬ (m.1 0 0 0 2) ≤ x1)) → Q (.inr 3) m c n))) : Wq g (d + 6) MX4_earliest c n 0 [some (pO 10 8 0), some (pI x1), some (pI x2)] [] m Q := by
  refine Wq.few (ls' := [some (pO 10 8 0), some (pI x1), some (pI x2)]) ⟨rfl, ⟨rfl, ⟨rfl, trivial⟩⟩⟩ ?_
  refine Wq.aload_n (t := 10) (r := 8) (j := 0) dX4_earliest_0 rfl ?_
  refine Wq.getf (v := pO 0 0 0) dX4_earliest_1 fl_X4_12 ⟨rfl, rfl, by decide⟩ rfl ?_
  refine Wq.iload_n (x := x1) dX4_earliest_4 rfl ?_
  refine Wq.callVI (As := [pI x1]) dX4_earliest_5 fX1_hasPupil ml_X4_59 rfl (by decide) rfl (Nat.le_of_ble_eq_true rfl) (Nat.le_of_ble_eq_true rfl) (suX1_hasPupil trivial) (fun x7 m9 e9 => ?_)
  obtain ⟨rfl, rfl⟩ := e9
  refine Wq.ifne (tgt := 21) dX4_earliest_8 (by decide) (fun q1 => ?_) (fun q1 => ?_)
  · replace h := h.1 (bI_1 q1)
    refine Wq.iload_n (x := x2) dX4_earliest_21 rfl ?_
    refine Wq.iconst (v := 0) dX4_earliest_22 (by decide) ?_
    refine Wq.iconst (v := 2) dX4_earliest_23 (by decide) ?_
    refine Wq.callSI (As := [pI x2, pI 0, pI 2]) dX4_earliest_24 fX4_isFromTo ml_X4_90 rfl (Nat.le_of_ble_eq_true rfl) (Nat.le_of_ble_eq_true rfl) (suX4_isFromTo trivial) (fun x6 m9 e9 => ?_)
    obtain ⟨rfl, rfl⟩ := e9
    refine Wq.ifne (tgt := 40) dX4_earliest_27 (by decide) (fun q2 => ?_) (fun q2 => ?_)
    · replace h := h.1 (bI_1 q2)
      refine Wq.aload_n (t := 10) (r := 8) (j := 0) dX4_earliest_40 rfl ?_
      refine Wq.getf (v := pO 0 0 0) dX4_earliest_41 fl_X4_12 ⟨rfl, rfl, by decide⟩ rfl ?_
      refine Wq.iload_n (x := x1) dX4_earliest_44 rfl ?_
      refine Wq.callVI (As := [pI x1]) dX4_earliest_45 fX1_earliestCell ml_X4_195 rfl (by decide) rfl (Nat.le_of_ble_eq_true rfl) (Nat.le_of_ble_eq_true rfl) h (fun r3 m4 h => ?_)
      refine Wq.iload_n (x := x2) dX4_earliest_48 rfl ?_
      refine Wq.callSI (As := [pI r3, pI x2]) dX4_earliest_49 fX4_partOfCell ml_X4_198 rfl (Nat.le_of_ble_eq_true rfl) (Nat.le_of_ble_eq_true rfl) (suX4_partOfCell trivial) (fun x5 m9 e9 => ?_)
      obtain ⟨rfl, rfl⟩ := e9
      exact Wq.iret dX4_earliest_52 (⟨_, rfl, rfl⟩) h
    · replace h := h.2 (bI_0 q2)
      exact Wq.throw (E := 2) rfl dX4_earliest_30 dX4_earliest_33 dX4_earliest_34 dX4_earliest_36 dX4_earliest_39 (List.mem_of_getElem? (i := 19) rfl) (by decide) h
  · replace h := h.2 (bI_0 q1)
    exact Wq.throw (E := 3) rfl dX4_earliest_11 dX4_earliest_14 dX4_earliest_15 dX4_earliest_17 dX4_earliest_20 (List.mem_of_getElem? (i := 2) rfl) (by decide) h
set_option maxHeartbeats 4000000 in
set_option maxRecDepth 20000 in
theorem sgX4_ifCancelled {g : GG} {d : Nat} {c n : Nat} {m : PM} {Q : Ou → PM → Nat → Nat → Prop} {x1 : Int32} {x2 : Int32} {x3 : Int32} (h : (((¬ x1 < 0) ∧ (¬ (m.1 0 0 0 1) ≤ x1) → ((¬ ((¬ x2 < (0 : Int32)) ∧ (¬ (9 : Int32) < x2)) → Q (.inr 2) m c n) ∧ ((¬ x2 < (0 : Int32)) ∧ (¬ (9 : Int32) < x2) → (((¬ x3 < (0 : Int32)) ∧ (¬ (2 : Int32) < x3) → Wp g (d + 5) MX1_copyFrom 0 [some (pO 0 1 0), some (pO 0 0 0)] [] m (cV fun m5 => Wp g (d + 5) MX1_cancelMorning 0 [some (pO 0 1 0), some (pI x1), some (pI x2)] [] m5 (cI fun r6 m7 => ((¬ x3 = 0 → Wq g (d + 6) MX4_ifCancelled c n 90 [some (pO 10 8 0), some (pI x1), some (pI x2), some (pI x3), none, some (pI 0), some (pI 1000), some (pI 0), none, none] [] m7 Q) ∧ (x3 = 0 → Q (.inl (some (pI r6))) m7 c n))))) ∧ (¬ ((¬ x3 < (0 : Int32)) ∧ (¬ (2 : Int32) < x3)) → Q (.inr 2) m c n))))) ∧ (¬ ((¬ x1 < 0) ∧ (¬ (m.1 0 0 0 1) ≤ x1)) → Q (.inr 3) m c n))) : Wq g (d + 6) MX4_ifCancelled c n 0 [some (pO 10 8 0), some (pI x1), some (pI x2), some (pI x3)] [] m Q := by
  refine Wq.few (ls' := [some (pO 10 8 0), some (pI x1), some (pI x2), some (pI x3), none, none, none, none, none, none]) ⟨rfl, ⟨rfl, ⟨rfl, ⟨rfl, trivial⟩⟩⟩⟩ ?_
  refine Wq.aload_n (t := 10) (r := 8) (j := 0) dX4_ifCancelled_0 rfl ?_
  refine Wq.getf (v := pO 0 0 0) dX4_ifCancelled_1 fl_X4_12 ⟨rfl, rfl, by decide⟩ rfl ?_
  refine Wq.iload_n (x := x1) dX4_ifCancelled_4 rfl ?_
  refine Wq.callVI (As := [pI x1]) dX4_ifCancelled_5 fX1_hasExaminer ml_X4_85 rfl (by decide) rfl (Nat.le_of_ble_eq_true rfl) (Nat.le_of_ble_eq_true rfl) (suX1_hasExaminer trivial) (fun x11 m9 e9 => ?_)
  obtain ⟨rfl, rfl⟩ := e9
  refine Wq.ifne (tgt := 21) dX4_ifCancelled_8 (by decide) (fun q1 => ?_) (fun q1 => ?_)
  · replace h := h.1 (bI_1 q1)
    refine Wq.iload_n (x := x2) dX4_ifCancelled_21 rfl ?_
    refine Wq.iconst (v := 0) dX4_ifCancelled_22 (by decide) ?_
    refine Wq.bipush (v := 9) dX4_ifCancelled_23 (by decide) ?_
    refine Wq.callSI (As := [pI x2, pI 0, pI 9]) dX4_ifCancelled_25 fX4_isFromTo ml_X4_90 rfl (Nat.le_of_ble_eq_true rfl) (Nat.le_of_ble_eq_true rfl) (suX4_isFromTo trivial) (fun x10 m9 e9 => ?_)
    obtain ⟨rfl, rfl⟩ := e9
    refine Wq.ifeq (tgt := 40) dX4_ifCancelled_28 (by decide) (fun q2 => ?_) (fun q2 => ?_)
    · replace h := h.1 (bI_0 q2)
      exact Wq.throw (E := 2) rfl dX4_ifCancelled_40 dX4_ifCancelled_43 dX4_ifCancelled_44 dX4_ifCancelled_46 dX4_ifCancelled_49 (List.mem_of_getElem? (i := 20) rfl) (by decide) h
    · replace h := h.2 (bI_1 q2)
      refine Wq.iload_n (x := x3) dX4_ifCancelled_31 rfl ?_
      refine Wq.iconst (v := 0) dX4_ifCancelled_32 (by decide) ?_
      refine Wq.iconst (v := 2) dX4_ifCancelled_33 (by decide) ?_
      refine Wq.callSI (As := [pI x3, pI 0, pI 2]) dX4_ifCancelled_34 fX4_isFromTo ml_X4_90 rfl (Nat.le_of_ble_eq_true rfl) (Nat.le_of_ble_eq_true rfl) (suX4_isFromTo trivial) (fun x9 m9 e9 => ?_)
      obtain ⟨rfl, rfl⟩ := e9
      refine Wq.ifne (tgt := 50) dX4_ifCancelled_37 (by decide) (fun q3 => ?_) (fun q3 => ?_)
      · replace h := h.1 (bI_1 q3)
        refine Wq.aload_n (t := 10) (r := 8) (j := 0) dX4_ifCancelled_50 rfl ?_
        refine Wq.getf (v := pO 0 1 0) dX4_ifCancelled_51 fl_X4_16 ⟨rfl, rfl, by decide⟩ rfl ?_
        refine Wq.aload_n (t := 10) (r := 8) (j := 0) dX4_ifCancelled_54 rfl ?_
        refine Wq.getf (v := pO 0 0 0) dX4_ifCancelled_55 fl_X4_12 ⟨rfl, rfl, by decide⟩ rfl ?_
        refine Wq.callVV (As := [pO 0 0 0]) dX4_ifCancelled_58 fX1_copyFrom ml_X4_165 rfl (by decide) rfl (Nat.le_of_ble_eq_true rfl) (Nat.le_of_ble_eq_true rfl) h (fun m5 h => ?_)
        refine Wq.aload_n (t := 10) (r := 8) (j := 0) dX4_ifCancelled_61 rfl ?_
        refine Wq.getf (v := pO 0 1 0) dX4_ifCancelled_62 fl_X4_16 ⟨rfl, rfl, by decide⟩ rfl ?_
        refine Wq.iload_n (x := x1) dX4_ifCancelled_65 rfl ?_
        refine Wq.iload_n (x := x2) dX4_ifCancelled_66 rfl ?_
        refine Wq.callVI (As := [pI x1, pI x2]) dX4_ifCancelled_67 fX1_cancelMorning ml_X4_99 rfl (by decide) rfl (Nat.le_of_ble_eq_true rfl) (Nat.le_of_ble_eq_true rfl) h (fun r6 m7 h => ?_)
        refine Wq.istore (ls2 := [some (pO 10 8 0), some (pI x1), some (pI x2), some (pI x3), some (pI r6), none, none, none, none, none]) dX4_ifCancelled_70 (by decide) rfl ?_
        refine Wq.iload_n (x := x3) dX4_ifCancelled_72 rfl ?_
        refine Wq.ifne (tgt := 79) dX4_ifCancelled_73 (by decide) (fun q8 => ?_) (fun q8 => ?_)
        · replace h := h.1 q8
          refine Wq.iconst (v := 0) dX4_ifCancelled_79 (by decide) ?_
          refine Wq.istore (ls2 := [some (pO 10 8 0), some (pI x1), some (pI x2), some (pI x3), some (pI r6), some (pI 0), none, none, none, none]) dX4_ifCancelled_80 (by decide) rfl ?_
          refine Wq.sipush (v := 1000) dX4_ifCancelled_82 (by decide) ?_
          refine Wq.istore (ls2 := [some (pO 10 8 0), some (pI x1), some (pI x2), some (pI x3), some (pI r6), some (pI 0), some (pI 1000), none, none, none]) dX4_ifCancelled_85 (by decide) rfl ?_
          refine Wq.iconst (v := 0) dX4_ifCancelled_87 (by decide) ?_
          refine Wq.istore (ls2 := [some (pO 10 8 0), some (pI x1), some (pI x2), some (pI x3), some (pI r6), some (pI 0), some (pI 1000), some (pI 0), none, none]) dX4_ifCancelled_88 (by decide) rfl ?_
          refine Wq.few (ls' := [some (pO 10 8 0), some (pI x1), some (pI x2), some (pI x3), none, some (pI 0), some (pI 1000), some (pI 0), none, none]) ⟨rfl, ⟨rfl, ⟨rfl, ⟨rfl, ⟨rfl, ⟨rfl, ⟨rfl, trivial⟩⟩⟩⟩⟩⟩⟩ ?_
          exact h
        · replace h := h.2 q8
          refine Wq.iload (x := r6) dX4_ifCancelled_76 rfl ?_
          exact Wq.iret dX4_ifCancelled_78 (⟨_, rfl, rfl⟩) h
      · replace h := h.2 (bI_0 q3)
        exact Wq.throw (E := 2) rfl dX4_ifCancelled_40 dX4_ifCancelled_43 dX4_ifCancelled_44 dX4_ifCancelled_46 dX4_ifCancelled_49 (List.mem_of_getElem? (i := 20) rfl) (by decide) h
  · replace h := h.2 (bI_0 q1)
    exact Wq.throw (E := 3) rfl dX4_ifCancelled_11 dX4_ifCancelled_14 dX4_ifCancelled_15 dX4_ifCancelled_17 dX4_ifCancelled_20 (List.mem_of_getElem? (i := 5) rfl) (by decide) h
set_option maxHeartbeats 4000000 in
set_option maxRecDepth 20000 in
theorem sgX4_ifCancelled_90 {g : GG} {d : Nat} {c n : Nat} {m : PM} {Q : Ou → PM → Nat → Nat → Prop} {x1 : Int32} {x2 : Int32} {x3 : Int32} {x5 : Int32} {x6 : Int32} {x7 : Int32} (h : ((2 ≤ x7 → ((¬ x3 = 1 → Q (.inl (some (pI x6))) m c n) ∧ (x3 = 1 → Q (.inl (some (pI x5))) m c n))) ∧ (¬ 2 ≤ x7 → (vp_in (((x2 * 16) + (x7 * 4)) + x1) 160 ∧ ((¬ ((¬ (m.1 0 2 0 (ix (((x2 * 16) + (x7 * 4)) + x1))) < 0) ∧ (¬ (m.1 0 0 0 2) ≤ (m.1 0 2 0 (ix (((x2 * 16) + (x7 * 4)) + x1))))) → Wq g (d + 6) MX4_ifCancelled c n 90 [some (pO 10 8 0), some (pI x1), some (pI x2), some (pI x3), none, some (pI x5), some (pI x6), some (pI (x7 + 1)), none, none] [] m Q) ∧ ((¬ (m.1 0 2 0 (ix (((x2 * 16) + (x7 * 4)) + x1))) < 0) ∧ (¬ (m.1 0 0 0 2) ≤ (m.1 0 2 0 (ix (((x2 * 16) + (x7 * 4)) + x1)))) → Wp g (d + 5) MX1_cellOf 0 [some (pO 0 1 0), some (pI (m.1 0 2 0 (ix (((x2 * 16) + (x7 * 4)) + x1))))] [] m (cI fun r4 m5 => ((¬ ((if ¬ r4 = (-1) then (if (0 : Int32) = 0 then (r4 / 16) else (if (0 : Int32) = 1 then (irm (r4 / 4) 4) else (irm r4 4))) else (-1)) : Int32) = (-1) → ((¬ ((if ¬ r4 = (-1) then (if (0 : Int32) = 0 then (r4 / 16) else (if (0 : Int32) = 1 then (irm (r4 / 4) 4) else (irm r4 4))) else (-1)) : Int32) = (-1) → Wq g (d + 6) MX4_ifCancelled c n 90 [some (pO 10 8 0), some (pI x1), some (pI x2), some (pI x3), none, some (pI (x5 + 0)), some (pI (x6 + (((if ¬ r4 = (-1) then (if (0 : Int32) = 0 then (r4 / 16) else (if (0 : Int32) = 1 then (irm (r4 / 4) 4) else (irm r4 4))) else (-1)) : Int32) - x2))), some (pI (x7 + 1)), none, none] [] m5 Q) ∧ (((if ¬ r4 = (-1) then (if (0 : Int32) = 0 then (r4 / 16) else (if (0 : Int32) = 1 then (irm (r4 / 4) 4) else (irm r4 4))) else (-1)) : Int32) = (-1) → Wq g (d + 6) MX4_ifCancelled c n 90 [some (pO 10 8 0), some (pI x1), some (pI x2), some (pI x3), none, some (pI (x5 + 0)), some (pI (x6 + 0)), some (pI (x7 + 1)), none, none] [] m5 Q))) ∧ (((if ¬ r4 = (-1) then (if (0 : Int32) = 0 then (r4 / 16) else (if (0 : Int32) = 1 then (irm (r4 / 4) 4) else (irm r4 4))) else (-1)) : Int32) = (-1) → ((¬ ((if ¬ r4 = (-1) then (if (0 : Int32) = 0 then (r4 / 16) else (if (0 : Int32) = 1 then (irm (r4 / 4) 4) else (irm r4 4))) else (-1)) : Int32) = (-1) → Wq g (d + 6) MX4_ifCancelled c n 90 [some (pO 10 8 0), some (pI x1), some (pI x2), some (pI x3), none, some (pI (x5 + 1)), some (pI (x6 + (((if ¬ r4 = (-1) then (if (0 : Int32) = 0 then (r4 / 16) else (if (0 : Int32) = 1 then (irm (r4 / 4) 4) else (irm r4 4))) else (-1)) : Int32) - x2))), some (pI (x7 + 1)), none, none] [] m5 Q) ∧ (((if ¬ r4 = (-1) then (if (0 : Int32) = 0 then (r4 / 16) else (if (0 : Int32) = 1 then (irm (r4 / 4) 4) else (irm r4 4))) else (-1)) : Int32) = (-1) → Wq g (d + 6) MX4_ifCancelled c n 90 [some (pO 10 8 0), some (pI x1), some (pI x2), some (pI x3), none, some (pI (x5 + 1)), some (pI (x6 + 0)), some (pI (x7 + 1)), none, none] [] m5 Q))))))))))) : Wq g (d + 6) MX4_ifCancelled c n 90 [some (pO 10 8 0), some (pI x1), some (pI x2), some (pI x3), none, some (pI x5), some (pI x6), some (pI x7), none, none] [] m Q := by
  refine Wq.iload (x := x7) dX4_ifCancelled_90 rfl ?_
  refine Wq.iconst (v := 2) dX4_ifCancelled_92 (by decide) ?_
  refine Wq.icmpge (tgt := 181) dX4_ifCancelled_93 (by decide) (fun q1 => ?_) (fun q1 => ?_)
  · replace h := h.1 q1
    refine Wq.iload_n (x := x3) dX4_ifCancelled_181 rfl ?_
    refine Wq.iconst (v := 1) dX4_ifCancelled_182 (by decide) ?_
    refine Wq.icmpne (tgt := 191) dX4_ifCancelled_183 (by decide) (fun q2 => ?_) (fun q2 => ?_)
    · replace h := h.1 q2
      refine Wq.iload (x := x6) dX4_ifCancelled_191 rfl ?_
      exact Wq.iret dX4_ifCancelled_193 (⟨_, rfl, rfl⟩) h
    · replace h := h.2 q2
      refine Wq.iload (x := x5) dX4_ifCancelled_186 rfl ?_
      refine Wq.goto (tgt := 193) dX4_ifCancelled_188 (by decide) ?_
      exact Wq.iret dX4_ifCancelled_193 (⟨_, rfl, rfl⟩) h
  · replace h := h.2 q1
    refine Wq.aload_n (t := 10) (r := 8) (j := 0) dX4_ifCancelled_96 rfl ?_
    refine Wq.getf (v := pO 0 0 0) dX4_ifCancelled_97 fl_X4_12 ⟨rfl, rfl, by decide⟩ rfl ?_
    refine Wq.getf (v := pO 2 0 0) dX4_ifCancelled_100 fl_X4_181 ⟨rfl, rfl, by decide⟩ rfl ?_
    refine Wq.iload_n (x := x1) dX4_ifCancelled_103 rfl ?_
    refine Wq.iload_n (x := x2) dX4_ifCancelled_104 rfl ?_
    refine Wq.iload (x := x7) dX4_ifCancelled_105 rfl ?_
    refine Wq.callSI (As := [pI x1, pI x2, pI x7]) dX4_ifCancelled_107 fX4_cellAt ml_X4_184 rfl (Nat.le_of_ble_eq_true rfl) (Nat.le_of_ble_eq_true rfl) (suX4_cellAt trivial) (fun x11 m9 e9 => ?_)
    obtain ⟨rfl, rfl⟩ := e9
    refine Wq.iald dX4_ifCancelled_110 rfl h.1 ?_
    replace h := h.2
    refine Wq.istore (ls2 := [some (pO 10 8 0), some (pI x1), some (pI x2), some (pI x3), none, some (pI x5), some (pI x6), some (pI x7), some (pI (m.1 0 2 0 (ix (((x2 * 16) + (x7 * 4)) + x1)))), none]) dX4_ifCancelled_111 (by decide) rfl ?_
    refine Wq.aload_n (t := 10) (r := 8) (j := 0) dX4_ifCancelled_113 rfl ?_
    refine Wq.getf (v := pO 0 0 0) dX4_ifCancelled_114 fl_X4_12 ⟨rfl, rfl, by decide⟩ rfl ?_
    refine Wq.iload (x := (m.1 0 2 0 (ix (((x2 * 16) + (x7 * 4)) + x1)))) dX4_ifCancelled_117 rfl ?_
    refine Wq.callVI (As := [pI (m.1 0 2 0 (ix (((x2 * 16) + (x7 * 4)) + x1)))]) dX4_ifCancelled_119 fX1_hasPupil ml_X4_59 rfl (by decide) rfl (Nat.le_of_ble_eq_true rfl) (Nat.le_of_ble_eq_true rfl) (suX1_hasPupil trivial) (fun x10 m9 e9 => ?_)
    obtain ⟨rfl, rfl⟩ := e9
    refine Wq.ifeq (tgt := 175) dX4_ifCancelled_122 (by decide) (fun q3 => ?_) (fun q3 => ?_)
    · replace h := h.1 (bI_0 q3)
      refine Wq.iinc (x := x7) (ls2 := [some (pO 10 8 0), some (pI x1), some (pI x2), some (pI x3), none, some (pI x5), some (pI x6), some (pI (x7 + 1)), some (pI (m.1 0 2 0 (ix (((x2 * 16) + (x7 * 4)) + x1)))), none]) dX4_ifCancelled_175 rfl (by decide) rfl ?_
      refine Wq.goto (tgt := 90) dX4_ifCancelled_178 (by decide) ?_
      refine Wq.few (ls' := [some (pO 10 8 0), some (pI x1), some (pI x2), some (pI x3), none, some (pI x5), some (pI x6), some (pI (x7 + 1)), none, none]) ⟨rfl, ⟨rfl, ⟨rfl, ⟨rfl, ⟨rfl, ⟨rfl, ⟨rfl, trivial⟩⟩⟩⟩⟩⟩⟩ ?_
      exact h
    · replace h := h.2 (bI_1 q3)
      refine Wq.aload_n (t := 10) (r := 8) (j := 0) dX4_ifCancelled_125 rfl ?_
      refine Wq.getf (v := pO 0 1 0) dX4_ifCancelled_126 fl_X4_16 ⟨rfl, rfl, by decide⟩ rfl ?_
      refine Wq.iload (x := (m.1 0 2 0 (ix (((x2 * 16) + (x7 * 4)) + x1)))) dX4_ifCancelled_129 rfl ?_
      refine Wq.callVI (As := [pI (m.1 0 2 0 (ix (((x2 * 16) + (x7 * 4)) + x1)))]) dX4_ifCancelled_131 fX1_cellOf ml_X4_203 rfl (by decide) rfl (Nat.le_of_ble_eq_true rfl) (Nat.le_of_ble_eq_true rfl) h (fun r4 m5 h => ?_)
      refine Wq.iconst (v := 0) dX4_ifCancelled_134 (by decide) ?_
      refine Wq.callSI (As := [pI r4, pI 0]) dX4_ifCancelled_135 fX4_partOfCell ml_X4_198 rfl (Nat.le_of_ble_eq_true rfl) (Nat.le_of_ble_eq_true rfl) (suX4_partOfCell trivial) (fun x9 m9 e9 => ?_)
      obtain ⟨rfl, rfl⟩ := e9
      refine Wq.istore (ls2 := [some (pO 10 8 0), some (pI x1), some (pI x2), some (pI x3), none, some (pI x5), some (pI x6), some (pI x7), some (pI (m.1 0 2 0 (ix (((x2 * 16) + (x7 * 4)) + x1)))), some (pI ((if ¬ r4 = (-1) then (if (0 : Int32) = 0 then (r4 / 16) else (if (0 : Int32) = 1 then (irm (r4 / 4) 4) else (irm r4 4))) else (-1)) : Int32))]) dX4_ifCancelled_138 (by decide) rfl ?_
      refine Wq.iload (x := x5) dX4_ifCancelled_140 rfl ?_
      refine Wq.iload (x := ((if ¬ r4 = (-1) then (if (0 : Int32) = 0 then (r4 / 16) else (if (0 : Int32) = 1 then (irm (r4 / 4) 4) else (irm r4 4))) else (-1)) : Int32)) dX4_ifCancelled_142 rfl ?_
      refine Wq.iconst (v := (-1)) dX4_ifCancelled_144 (by decide) ?_
      refine Wq.icmpne (tgt := 152) dX4_ifCancelled_145 (by decide) (fun q6 => ?_) (fun q6 => ?_)
      · replace h := h.1 q6
        refine Wq.iconst (v := 0) dX4_ifCancelled_152 (by decide) ?_
        refine Wq.iadd dX4_ifCancelled_153 ?_
        refine Wq.istore (ls2 := [some (pO 10 8 0), some (pI x1), some (pI x2), some (pI x3), none, some (pI (x5 + 0)), some (pI x6), some (pI x7), some (pI (m.1 0 2 0 (ix (((x2 * 16) + (x7 * 4)) + x1)))), some (pI ((if ¬ r4 = (-1) then (if (0 : Int32) = 0 then (r4 / 16) else (if (0 : Int32) = 1 then (irm (r4 / 4) 4) else (irm r4 4))) else (-1)) : Int32))]) dX4_ifCancelled_154 (by decide) rfl ?_
        refine Wq.iload (x := x6) dX4_ifCancelled_156 rfl ?_
        refine Wq.iload (x := ((if ¬ r4 = (-1) then (if (0 : Int32) = 0 then (r4 / 16) else (if (0 : Int32) = 1 then (irm (r4 / 4) 4) else (irm r4 4))) else (-1)) : Int32)) dX4_ifCancelled_158 rfl ?_
        refine Wq.iconst (v := (-1)) dX4_ifCancelled_160 (by decide) ?_
        refine Wq.icmpne (tgt := 168) dX4_ifCancelled_161 (by decide) (fun q7 => ?_) (fun q7 => ?_)
        · replace h := h.1 q7
          refine Wq.iload (x := ((if ¬ r4 = (-1) then (if (0 : Int32) = 0 then (r4 / 16) else (if (0 : Int32) = 1 then (irm (r4 / 4) 4) else (irm r4 4))) else (-1)) : Int32)) dX4_ifCancelled_168 rfl ?_
          refine Wq.iload_n (x := x2) dX4_ifCancelled_170 rfl ?_
          refine Wq.isub dX4_ifCancelled_171 ?_
          refine Wq.iadd dX4_ifCancelled_172 ?_
          refine Wq.istore (ls2 := [some (pO 10 8 0), some (pI x1), some (pI x2), some (pI x3), none, some (pI (x5 + 0)), some (pI (x6 + (((if ¬ r4 = (-1) then (if (0 : Int32) = 0 then (r4 / 16) else (if (0 : Int32) = 1 then (irm (r4 / 4) 4) else (irm r4 4))) else (-1)) : Int32) - x2))), some (pI x7), some (pI (m.1 0 2 0 (ix (((x2 * 16) + (x7 * 4)) + x1)))), some (pI ((if ¬ r4 = (-1) then (if (0 : Int32) = 0 then (r4 / 16) else (if (0 : Int32) = 1 then (irm (r4 / 4) 4) else (irm r4 4))) else (-1)) : Int32))]) dX4_ifCancelled_173 (by decide) rfl ?_
          refine Wq.iinc (x := x7) (ls2 := [some (pO 10 8 0), some (pI x1), some (pI x2), some (pI x3), none, some (pI (x5 + 0)), some (pI (x6 + (((if ¬ r4 = (-1) then (if (0 : Int32) = 0 then (r4 / 16) else (if (0 : Int32) = 1 then (irm (r4 / 4) 4) else (irm r4 4))) else (-1)) : Int32) - x2))), some (pI (x7 + 1)), some (pI (m.1 0 2 0 (ix (((x2 * 16) + (x7 * 4)) + x1)))), some (pI ((if ¬ r4 = (-1) then (if (0 : Int32) = 0 then (r4 / 16) else (if (0 : Int32) = 1 then (irm (r4 / 4) 4) else (irm r4 4))) else (-1)) : Int32))]) dX4_ifCancelled_175 rfl (by decide) rfl ?_
          refine Wq.goto (tgt := 90) dX4_ifCancelled_178 (by decide) ?_
          refine Wq.few (ls' := [some (pO 10 8 0), some (pI x1), some (pI x2), some (pI x3), none, some (pI (x5 + 0)), some (pI (x6 + (((if ¬ r4 = (-1) then (if (0 : Int32) = 0 then (r4 / 16) else (if (0 : Int32) = 1 then (irm (r4 / 4) 4) else (irm r4 4))) else (-1)) : Int32) - x2))), some (pI (x7 + 1)), none, none]) ⟨rfl, ⟨rfl, ⟨rfl, ⟨rfl, ⟨rfl, ⟨rfl, ⟨rfl, trivial⟩⟩⟩⟩⟩⟩⟩ ?_
          exact h
        · replace h := h.2 q7
          refine Wq.iconst (v := 0) dX4_ifCancelled_164 (by decide) ?_
          refine Wq.goto (tgt := 172) dX4_ifCancelled_165 (by decide) ?_
          refine Wq.iadd dX4_ifCancelled_172 ?_
          refine Wq.istore (ls2 := [some (pO 10 8 0), some (pI x1), some (pI x2), some (pI x3), none, some (pI (x5 + 0)), some (pI (x6 + 0)), some (pI x7), some (pI (m.1 0 2 0 (ix (((x2 * 16) + (x7 * 4)) + x1)))), some (pI ((if ¬ r4 = (-1) then (if (0 : Int32) = 0 then (r4 / 16) else (if (0 : Int32) = 1 then (irm (r4 / 4) 4) else (irm r4 4))) else (-1)) : Int32))]) dX4_ifCancelled_173 (by decide) rfl ?_
          refine Wq.iinc (x := x7) (ls2 := [some (pO 10 8 0), some (pI x1), some (pI x2), some (pI x3), none, some (pI (x5 + 0)), some (pI (x6 + 0)), some (pI (x7 + 1)), some (pI (m.1 0 2 0 (ix (((x2 * 16) + (x7 * 4)) + x1)))), some (pI ((if ¬ r4 = (-1) then (if (0 : Int32) = 0 then (r4 / 16) else (if (0 : Int32) = 1 then (irm (r4 / 4) 4) else (irm r4 4))) else (-1)) : Int32))]) dX4_ifCancelled_175 rfl (by decide) rfl ?_
          refine Wq.goto (tgt := 90) dX4_ifCancelled_178 (by decide) ?_
          refine Wq.few (ls' := [some (pO 10 8 0), some (pI x1), some (pI x2), some (pI x3), none, some (pI (x5 + 0)), some (pI (x6 + 0)), some (pI (x7 + 1)), none, none]) ⟨rfl, ⟨rfl, ⟨rfl, ⟨rfl, ⟨rfl, ⟨rfl, ⟨rfl, trivial⟩⟩⟩⟩⟩⟩⟩ ?_
          exact h
      · replace h := h.2 q6
        refine Wq.iconst (v := 1) dX4_ifCancelled_148 (by decide) ?_
        refine Wq.goto (tgt := 153) dX4_ifCancelled_149 (by decide) ?_
        refine Wq.iadd dX4_ifCancelled_153 ?_
        refine Wq.istore (ls2 := [some (pO 10 8 0), some (pI x1), some (pI x2), some (pI x3), none, some (pI (x5 + 1)), some (pI x6), some (pI x7), some (pI (m.1 0 2 0 (ix (((x2 * 16) + (x7 * 4)) + x1)))), some (pI ((if ¬ r4 = (-1) then (if (0 : Int32) = 0 then (r4 / 16) else (if (0 : Int32) = 1 then (irm (r4 / 4) 4) else (irm r4 4))) else (-1)) : Int32))]) dX4_ifCancelled_154 (by decide) rfl ?_
        refine Wq.iload (x := x6) dX4_ifCancelled_156 rfl ?_
        refine Wq.iload (x := ((if ¬ r4 = (-1) then (if (0 : Int32) = 0 then (r4 / 16) else (if (0 : Int32) = 1 then (irm (r4 / 4) 4) else (irm r4 4))) else (-1)) : Int32)) dX4_ifCancelled_158 rfl ?_
        refine Wq.iconst (v := (-1)) dX4_ifCancelled_160 (by decide) ?_
        refine Wq.icmpne (tgt := 168) dX4_ifCancelled_161 (by decide) (fun q8 => ?_) (fun q8 => ?_)
        · replace h := h.1 q8
          refine Wq.iload (x := ((if ¬ r4 = (-1) then (if (0 : Int32) = 0 then (r4 / 16) else (if (0 : Int32) = 1 then (irm (r4 / 4) 4) else (irm r4 4))) else (-1)) : Int32)) dX4_ifCancelled_168 rfl ?_
          refine Wq.iload_n (x := x2) dX4_ifCancelled_170 rfl ?_
          refine Wq.isub dX4_ifCancelled_171 ?_
          refine Wq.iadd dX4_ifCancelled_172 ?_
          refine Wq.istore (ls2 := [some (pO 10 8 0), some (pI x1), some (pI x2), some (pI x3), none, some (pI (x5 + 1)), some (pI (x6 + (((if ¬ r4 = (-1) then (if (0 : Int32) = 0 then (r4 / 16) else (if (0 : Int32) = 1 then (irm (r4 / 4) 4) else (irm r4 4))) else (-1)) : Int32) - x2))), some (pI x7), some (pI (m.1 0 2 0 (ix (((x2 * 16) + (x7 * 4)) + x1)))), some (pI ((if ¬ r4 = (-1) then (if (0 : Int32) = 0 then (r4 / 16) else (if (0 : Int32) = 1 then (irm (r4 / 4) 4) else (irm r4 4))) else (-1)) : Int32))]) dX4_ifCancelled_173 (by decide) rfl ?_
          refine Wq.iinc (x := x7) (ls2 := [some (pO 10 8 0), some (pI x1), some (pI x2), some (pI x3), none, some (pI (x5 + 1)), some (pI (x6 + (((if ¬ r4 = (-1) then (if (0 : Int32) = 0 then (r4 / 16) else (if (0 : Int32) = 1 then (irm (r4 / 4) 4) else (irm r4 4))) else (-1)) : Int32) - x2))), some (pI (x7 + 1)), some (pI (m.1 0 2 0 (ix (((x2 * 16) + (x7 * 4)) + x1)))), some (pI ((if ¬ r4 = (-1) then (if (0 : Int32) = 0 then (r4 / 16) else (if (0 : Int32) = 1 then (irm (r4 / 4) 4) else (irm r4 4))) else (-1)) : Int32))]) dX4_ifCancelled_175 rfl (by decide) rfl ?_
          refine Wq.goto (tgt := 90) dX4_ifCancelled_178 (by decide) ?_
          refine Wq.few (ls' := [some (pO 10 8 0), some (pI x1), some (pI x2), some (pI x3), none, some (pI (x5 + 1)), some (pI (x6 + (((if ¬ r4 = (-1) then (if (0 : Int32) = 0 then (r4 / 16) else (if (0 : Int32) = 1 then (irm (r4 / 4) 4) else (irm r4 4))) else (-1)) : Int32) - x2))), some (pI (x7 + 1)), none, none]) ⟨rfl, ⟨rfl, ⟨rfl, ⟨rfl, ⟨rfl, ⟨rfl, ⟨rfl, trivial⟩⟩⟩⟩⟩⟩⟩ ?_
          exact h
        · replace h := h.2 q8
          refine Wq.iconst (v := 0) dX4_ifCancelled_164 (by decide) ?_
          refine Wq.goto (tgt := 172) dX4_ifCancelled_165 (by decide) ?_
          refine Wq.iadd dX4_ifCancelled_172 ?_
          refine Wq.istore (ls2 := [some (pO 10 8 0), some (pI x1), some (pI x2), some (pI x3), none, some (pI (x5 + 1)), some (pI (x6 + 0)), some (pI x7), some (pI (m.1 0 2 0 (ix (((x2 * 16) + (x7 * 4)) + x1)))), some (pI ((if ¬ r4 = (-1) then (if (0 : Int32) = 0 then (r4 / 16) else (if (0 : Int32) = 1 then (irm (r4 / 4) 4) else (irm r4 4))) else (-1)) : Int32))]) dX4_ifCancelled_173 (by decide) rfl ?_
          refine Wq.iinc (x := x7) (ls2 := [some (pO 10 8 0), some (pI x1), some (pI x2), some (pI x3), none, some (pI (x5 + 1)), some (pI (x6 + 0)), some (pI (x7 + 1)), some (pI (m.1 0 2 0 (ix (((x2 * 16) + (x7 * 4)) + x1)))), some (pI ((if ¬ r4 = (-1) then (if (0 : Int32) = 0 then (r4 / 16) else (if (0 : Int32) = 1 then (irm (r4 / 4) 4) else (irm r4 4))) else (-1)) : Int32))]) dX4_ifCancelled_175 rfl (by decide) rfl ?_
          refine Wq.goto (tgt := 90) dX4_ifCancelled_178 (by decide) ?_
          refine Wq.few (ls' := [some (pO 10 8 0), some (pI x1), some (pI x2), some (pI x3), none, some (pI (x5 + 1)), some (pI (x6 + 0)), some (pI (x7 + 1)), none, none]) ⟨rfl, ⟨rfl, ⟨rfl, ⟨rfl, ⟨rfl, ⟨rfl, ⟨rfl, trivial⟩⟩⟩⟩⟩⟩⟩ ?_
          exact h
set_option maxHeartbeats 4000000 in
set_option maxRecDepth 20000 in
theorem sgX4_ifTested {g : GG} {d : Nat} {c n : Nat} {m : PM} {Q : Ou → PM → Nat → Nat → Prop} {x1 : Int32} {x2 : Int32} (h : ((¬ ((¬ x1 < 0) ∧ (¬ (m.1 0 0 0 2) ≤ x1)) → Q (.inr 3) m c n) ∧ ((¬ x1 < 0) ∧ (¬ (m.1 0 0 0 2) ≤ x1) → (((¬ x2 < 0) ∧ (¬ (m.1 0 0 0 1) ≤ x2) → Wp g (d + 5) MX1_routeFor 0 [some (pO 0 0 0), some (pI x1), some (pI x2)] [] m (cI fun r3 m4 => Q (.inl (some (pI r3))) m4 c n)) ∧ (¬ ((¬ x2 < 0) ∧ (¬ (m.1 0 0 0 1) ≤ x2)) → Q (.inr 3) m c n))))) : Wq g (d + 6) MX4_ifTested c n 0 [some (pO 10 8 0), some (pI x1), some (pI x2)] [] m Q := by
  refine Wq.few (ls' := [some (pO 10 8 0), some (pI x1), some (pI x2)]) ⟨rfl, ⟨rfl, ⟨rfl, trivial⟩⟩⟩ ?_
  refine Wq.aload_n (t := 10) (r := 8) (j := 0) dX4_ifTested_0 rfl ?_
  refine Wq.getf (v := pO 0 0 0) dX4_ifTested_1 fl_X4_12 ⟨rfl, rfl, by decide⟩ rfl ?_
  refine Wq.iload_n (x := x1) dX4_ifTested_4 rfl ?_
  refine Wq.callVI (As := [pI x1]) dX4_ifTested_5 fX1_hasPupil ml_X4_59 rfl (by decide) rfl (Nat.le_of_ble_eq_true rfl) (Nat.le_of_ble_eq_true rfl) (suX1_hasPupil trivial) (fun x6 m9 e9 => ?_)
  obtain ⟨rfl, rfl⟩ := e9
  refine Wq.ifeq (tgt := 22) dX4_ifTested_8 (by decide) (fun q1 => ?_) (fun q1 => ?_)
  · replace h := h.1 (bI_0 q1)
    exact Wq.throw (E := 3) rfl dX4_ifTested_22 dX4_ifTested_25 dX4_ifTested_26 dX4_ifTested_28 dX4_ifTested_31 (List.mem_of_getElem? (i := 21) rfl) (by decide) h
  · replace h := h.2 (bI_1 q1)
    refine Wq.aload_n (t := 10) (r := 8) (j := 0) dX4_ifTested_11 rfl ?_
    refine Wq.getf (v := pO 0 0 0) dX4_ifTested_12 fl_X4_12 ⟨rfl, rfl, by decide⟩ rfl ?_
    refine Wq.iload_n (x := x2) dX4_ifTested_15 rfl ?_
    refine Wq.callVI (As := [pI x2]) dX4_ifTested_16 fX1_hasExaminer ml_X4_85 rfl (by decide) rfl (Nat.le_of_ble_eq_true rfl) (Nat.le_of_ble_eq_true rfl) (suX1_hasExaminer trivial) (fun x5 m9 e9 => ?_)
    obtain ⟨rfl, rfl⟩ := e9
    refine Wq.ifne (tgt := 32) dX4_ifTested_19 (by decide) (fun q2 => ?_) (fun q2 => ?_)
    · replace h := h.1 (bI_1 q2)
      refine Wq.aload_n (t := 10) (r := 8) (j := 0) dX4_ifTested_32 rfl ?_
      refine Wq.getf (v := pO 0 0 0) dX4_ifTested_33 fl_X4_12 ⟨rfl, rfl, by decide⟩ rfl ?_
      refine Wq.iload_n (x := x1) dX4_ifTested_36 rfl ?_
      refine Wq.iload_n (x := x2) dX4_ifTested_37 rfl ?_
      refine Wq.callVI (As := [pI x1, pI x2]) dX4_ifTested_38 fX1_routeFor ml_X4_208 rfl (by decide) rfl (Nat.le_of_ble_eq_true rfl) (Nat.le_of_ble_eq_true rfl) h (fun r3 m4 h => ?_)
      exact Wq.iret dX4_ifTested_41 (⟨_, rfl, rfl⟩) h
    · replace h := h.2 (bI_0 q2)
      exact Wq.throw (E := 3) rfl dX4_ifTested_22 dX4_ifTested_25 dX4_ifTested_26 dX4_ifTested_28 dX4_ifTested_31 (List.mem_of_getElem? (i := 21) rfl) (by decide) h
set_option maxHeartbeats 4000000 in
set_option maxRecDepth 20000 in
theorem sgX4_couldHave {g : GG} {d : Nat} {c n : Nat} {m : PM} {Q : Ou → PM → Nat → Nat → Prop} {x1 : Int32} (h : (((¬ x1 < (0 : Int32)) ∧ (¬ (9 : Int32) < x1) → Wp g (d + 5) MX1_mostWithSlotsOf 0 [some (pO 0 0 0), some (pI x1)] [] m (cI fun r2 m3 => Q (.inl (some (pI r2))) m3 c n)) ∧ (¬ ((¬ x1 < (0 : Int32)) ∧ (¬ (9 : Int32) < x1)) → Q (.inr 2) m c n))) : Wq g (d + 6) MX4_couldHave c n 0 [some (pO 10 8 0), some (pI x1)] [] m Q := by
  refine Wq.few (ls' := [some (pO 10 8 0), some (pI x1)]) ⟨rfl, ⟨rfl, trivial⟩⟩ ?_
  refine Wq.iload_n (x := x1) dX4_couldHave_0 rfl ?_
  refine Wq.iconst (v := 0) dX4_couldHave_1 (by decide) ?_
  refine Wq.bipush (v := 9) dX4_couldHave_2 (by decide) ?_
  refine Wq.callSI (As := [pI x1, pI 0, pI 9]) dX4_couldHave_4 fX4_isFromTo ml_X4_90 rfl (Nat.le_of_ble_eq_true rfl) (Nat.le_of_ble_eq_true rfl) (suX4_isFromTo trivial) (fun x4 m9 e9 => ?_)
  obtain ⟨rfl, rfl⟩ := e9
  refine Wq.ifne (tgt := 20) dX4_couldHave_7 (by decide) (fun q1 => ?_) (fun q1 => ?_)
  · replace h := h.1 (bI_1 q1)
    refine Wq.aload_n (t := 10) (r := 8) (j := 0) dX4_couldHave_20 rfl ?_
    refine Wq.getf (v := pO 0 0 0) dX4_couldHave_21 fl_X4_12 ⟨rfl, rfl, by decide⟩ rfl ?_
    refine Wq.iload_n (x := x1) dX4_couldHave_24 rfl ?_
    refine Wq.callVI (As := [pI x1]) dX4_couldHave_25 fX1_mostWithSlotsOf ml_X4_211 rfl (by decide) rfl (Nat.le_of_ble_eq_true rfl) (Nat.le_of_ble_eq_true rfl) h (fun r2 m3 h => ?_)
    exact Wq.iret dX4_couldHave_28 (⟨_, rfl, rfl⟩) h
  · replace h := h.2 (bI_0 q1)
    exact Wq.throw (E := 2) rfl dX4_couldHave_10 dX4_couldHave_13 dX4_couldHave_14 dX4_couldHave_16 dX4_couldHave_19 (List.mem_of_getElem? (i := 6) rfl) (by decide) h
set_option maxHeartbeats 4000000 in
set_option maxRecDepth 20000 in
theorem sgX4_firstError {g : GG} {d : Nat} {c n : Nat} {m : PM} {Q : Ou → PM → Nat → Nat → Prop}  (h : Wp g (d + 6) MX2_read 0 [some (pO 12 8 0)] [] m (cI fun r1 m2 => Q (.inl (some (pI (m2.1 8 12 0 2)))) m2 c n)) : Wq g (d + 7) MX4_firstError c n 0 [some (pO 10 8 0)] [] m Q := by
  refine Wq.few (ls' := [some (pO 10 8 0)]) ⟨rfl, trivial⟩ ?_
  refine Wq.aload_n (t := 10) (r := 8) (j := 0) dX4_firstError_0 rfl ?_
  refine Wq.getf (v := pO 12 8 0) dX4_firstError_1 fl_X4_30 ⟨rfl, rfl, by decide⟩ rfl ?_
  refine Wq.callVI (As := []) dX4_firstError_4 fX2_read ml_X4_149 rfl (by decide) rfl (Nat.le_of_ble_eq_true rfl) (Nat.le_of_ble_eq_true rfl) h (fun r1 m2 h => ?_)
  refine Wq.pop dX4_firstError_7 rfl ?_
  refine Wq.aload_n (t := 10) (r := 8) (j := 0) dX4_firstError_8 rfl ?_
  refine Wq.getf (v := pO 12 8 0) dX4_firstError_9 fl_X4_30 ⟨rfl, rfl, by decide⟩ rfl ?_
  refine Wq.getf (v := pI (m2.1 8 12 0 2)) dX4_firstError_12 fl_X4_152 ⟨rfl, rfl, by decide⟩ rfl ?_
  exact Wq.iret dX4_firstError_15 (⟨_, rfl, rfl⟩) h
set_option maxHeartbeats 4000000 in
set_option maxRecDepth 20000 in
theorem sgX4_run {g : GG} {d : Nat} {c n : Nat} {m : PM} {Q : Ou → PM → Nat → Nat → Prop}  (h : Wp g (d + 6) MX2_read 0 [some (pO 12 8 0)] [] m (cI fun r1 m2 => ((¬ r1 = 0 → Wp g (d + 6) MX4_save 0 [some (pO 10 8 0)] [] m2 (cV fun m5 => Wq g (d + 7) MX4_run c n 26 [some (pO 10 8 0), some (pI 0)] [] m5 Q)) ∧ (r1 = 0 → Q (.inr 2) m2 c n)))) : Wq g (d + 7) MX4_run c n 0 [some (pO 10 8 0)] [] m Q := by
  refine Wq.few (ls' := [some (pO 10 8 0), none]) ⟨rfl, trivial⟩ ?_
  refine Wq.aload_n (t := 10) (r := 8) (j := 0) dX4_run_0 rfl ?_
  refine Wq.getf (v := pO 12 8 0) dX4_run_1 fl_X4_30 ⟨rfl, rfl, by decide⟩ rfl ?_
  refine Wq.callVI (As := []) dX4_run_4 fX2_read ml_X4_149 rfl (by decide) rfl (Nat.le_of_ble_eq_true rfl) (Nat.le_of_ble_eq_true rfl) h (fun r1 m2 h => ?_)
  refine Wq.ifne (tgt := 20) dX4_run_7 (by decide) (fun q3 => ?_) (fun q3 => ?_)
  · replace h := h.1 q3
    refine Wq.aload_n (t := 10) (r := 8) (j := 0) dX4_run_20 rfl ?_
    refine Wq.callVV (As := []) dX4_run_21 fX4_save ml_X4_44 rfl (by decide) rfl (Nat.le_of_ble_eq_true rfl) (Nat.le_of_ble_eq_true rfl) h (fun m5 h => ?_)
    refine Wq.iconst (v := 0) dX4_run_24 (by decide) ?_
    refine Wq.istore_n (ls2 := [some (pO 10 8 0), some (pI 0)]) dX4_run_25 (by decide) rfl ?_
    exact h
  · replace h := h.2 q3
    exact Wq.throw (E := 2) rfl dX4_run_10 dX4_run_13 dX4_run_14 dX4_run_16 dX4_run_19 (List.mem_of_getElem? (i := 13) rfl) (by decide) h
set_option maxHeartbeats 4000000 in
set_option maxRecDepth 20000 in
theorem sgX4_run_26 {g : GG} {d : Nat} {c n : Nat} {m : PM} {Q : Ou → PM → Nat → Nat → Prop} {x1 : Int32} (h : (((m.1 8 12 0 3) ≤ x1 → Q (.inl (some (pI x1))) (setI m 12 8 0 1 0) c n) ∧ (¬ (m.1 8 12 0 3) ≤ x1 → Wp g (d + 6) MX4_carryOut 0 [some (pO 10 8 0), some (pI x1)] [] m (cI fun r2 m3 => ((r2 = 0 → Q (.inl (some (pI x1))) (setI m3 12 8 0 1 0) c n) ∧ (¬ r2 = 0 → Wq g (d + 7) MX4_run c n 26 [some (pO 10 8 0), some (pI (x1 + 1))] [] m3 Q)))))) : Wq g (d + 7) MX4_run c n 26 [some (pO 10 8 0), some (pI x1)] [] m Q := by
  refine Wq.iload_n (x := x1) dX4_run_26 rfl ?_
  refine Wq.aload_n (t := 10) (r := 8) (j := 0) dX4_run_27 rfl ?_
  refine Wq.getf (v := pO 12 8 0) dX4_run_28 fl_X4_30 ⟨rfl, rfl, by decide⟩ rfl ?_
  refine Wq.getf (v := pI (m.1 8 12 0 3)) dX4_run_31 fl_X4_157 ⟨rfl, rfl, by decide⟩ rfl ?_
  refine Wq.icmpge (tgt := 51) dX4_run_34 (by decide) (fun q1 => ?_) (fun q1 => ?_)
  · replace h := h.1 q1
    refine Wq.aload_n (t := 10) (r := 8) (j := 0) dX4_run_51 rfl ?_
    refine Wq.getf (v := pO 12 8 0) dX4_run_52 fl_X4_30 ⟨rfl, rfl, by decide⟩ rfl ?_
    refine Wq.iconst (v := 0) dX4_run_55 (by decide) ?_
    refine Wq.putI dX4_run_56 fw_X4_146 ⟨rfl, rfl, by decide⟩ ⟨rfl, by decide, by decide⟩ ⟨rfl, rfl⟩ ?_
    refine Wq.iload_n (x := x1) dX4_run_59 rfl ?_
    exact Wq.iret dX4_run_60 (⟨_, rfl, rfl⟩) h
  · replace h := h.2 q1
    refine Wq.aload_n (t := 10) (r := 8) (j := 0) dX4_run_37 rfl ?_
    refine Wq.iload_n (x := x1) dX4_run_38 rfl ?_
    refine Wq.callVI (As := [pI x1]) dX4_run_39 fX4_carryOut ml_X4_160 rfl (by decide) rfl (Nat.le_of_ble_eq_true rfl) (Nat.le_of_ble_eq_true rfl) h (fun r2 m3 h => ?_)
    refine Wq.ifeq (tgt := 51) dX4_run_42 (by decide) (fun q4 => ?_) (fun q4 => ?_)
    · replace h := h.1 q4
      refine Wq.aload_n (t := 10) (r := 8) (j := 0) dX4_run_51 rfl ?_
      refine Wq.getf (v := pO 12 8 0) dX4_run_52 fl_X4_30 ⟨rfl, rfl, by decide⟩ rfl ?_
      refine Wq.iconst (v := 0) dX4_run_55 (by decide) ?_
      refine Wq.putI dX4_run_56 fw_X4_146 ⟨rfl, rfl, by decide⟩ ⟨rfl, by decide, by decide⟩ ⟨rfl, rfl⟩ ?_
      refine Wq.iload_n (x := x1) dX4_run_59 rfl ?_
      exact Wq.iret dX4_run_60 (⟨_, rfl, rfl⟩) h
    · replace h := h.2 q4
      refine Wq.iinc (x := x1) (ls2 := [some (pO 10 8 0), some (pI (x1 + 1))]) dX4_run_45 rfl (by decide) rfl ?_
      refine Wq.goto (tgt := 26) dX4_run_48 (by decide) ?_
      exact h
set_option maxHeartbeats 4000000 in
set_option maxRecDepth 20000 in
theorem sgX4_hashWithPupil {g : GG} {d : Nat} {c n : Nat} {m : PM} {Q : Ou → PM → Nat → Nat → Prop} {x1 : Int64} {x2 : Int32} (h : Wq g (d + 7) MX4_hashWithPupil c n 6 [some (pO 10 8 0), none, none, some (pI x2), some (pL x1), none, some (pI 0)] [] m Q) : Wq g (d + 7) MX4_hashWithPupil c n 0 [some (pO 10 8 0), some (pL x1), none, some (pI x2)] [] m Q := by
  refine Wq.few (ls' := [some (pO 10 8 0), some (pL x1), none, some (pI x2), none, none, none]) ⟨rfl, ⟨rfl, ⟨rfl, trivial⟩⟩⟩ ?_
  refine Wq.lload_n (x := x1) dX4_hashWithPupil_0 rfl ?_
  refine Wq.lstore (ls2 := [some (pO 10 8 0), some (pL x1), none, some (pI x2), some (pL x1), none, none]) dX4_hashWithPupil_1 (by decide) rfl ?_
  refine Wq.iconst (v := 0) dX4_hashWithPupil_3 (by decide) ?_
  refine Wq.istore (ls2 := [some (pO 10 8 0), some (pL x1), none, some (pI x2), some (pL x1), none, some (pI 0)]) dX4_hashWithPupil_4 (by decide) rfl ?_
  refine Wq.few (ls' := [some (pO 10 8 0), none, none, some (pI x2), some (pL x1), none, some (pI 0)]) ⟨rfl, ⟨rfl, ⟨rfl, ⟨rfl, trivial⟩⟩⟩⟩ ?_
  exact h
set_option maxHeartbeats 4000000 in
set_option maxRecDepth 20000 in
theorem sgX4_hashWithPupil_6 {g : GG} {d : Nat} {c n : Nat} {m : PM} {Q : Ou → PM → Nat → Nat → Prop} {x3 : Int32} {x4 : Int64} {x6 : Int32} (h : ((10 < x6 → Wq g (d + 7) MX4_hashWithPupil c n 37 [some (pO 10 8 0), none, none, some (pI x3), some (pL x4), none, some (pI 0)] [] m Q) ∧ (¬ 10 < x6 → Wp g (d + 6) MX4_pupil 0 [some (pO 10 8 0), some (pI x3), some (pI x6)] [] m (cI fun r2 m3 => Wq g (d + 7) MX4_hashWithPupil c n 6 [some (pO 10 8 0), none, none, some (pI x3), some (pL ((31 * x4) + (Int32.toInt64 r2))), none, some (pI (x6 + 1))] [] m3 Q)))) : Wq g (d + 7) MX4_hashWithPupil c n 6 [some (pO 10 8 0), none, none, some (pI x3), some (pL x4), none, some (pI x6)] [] m Q := by
  refine Wq.iload (x := x6) dX4_hashWithPupil_6 rfl ?_
  refine Wq.bipush (v := 10) dX4_hashWithPupil_8 (by decide) ?_
  refine Wq.icmpgt (tgt := 34) dX4_hashWithPupil_10 (by decide) (fun q1 => ?_) (fun q1 => ?_)
  · replace h := h.1 q1
    refine Wq.iconst (v := 0) dX4_hashWithPupil_34 (by decide) ?_
    refine Wq.istore (ls2 := [some (pO 10 8 0), none, none, some (pI x3), some (pL x4), none, some (pI 0)]) dX4_hashWithPupil_35 (by decide) rfl ?_
    exact h
  · replace h := h.2 q1
    refine Wq.lload (x := x4) dX4_hashWithPupil_13 rfl ?_
    refine Wq.aload_n (t := 10) (r := 8) (j := 0) dX4_hashWithPupil_15 rfl ?_
    refine Wq.iload_n (x := x3) dX4_hashWithPupil_16 rfl ?_
    refine Wq.iload (x := x6) dX4_hashWithPupil_17 rfl ?_
    refine Wq.callVI (As := [pI x3, pI x6]) dX4_hashWithPupil_19 fX4_pupil ml_X4_277 rfl (by decide) rfl (Nat.le_of_ble_eq_true rfl) (Nat.le_of_ble_eq_true rfl) h (fun r2 m3 h => ?_)
    refine Wq.i2l dX4_hashWithPupil_22 ?_
    refine Wq.callSL (As := [pL x4, pL (Int32.toInt64 r2)]) dX4_hashWithPupil_23 fX4_hashWith ml_X4_225 rfl (Nat.le_of_ble_eq_true rfl) (Nat.le_of_ble_eq_true rfl) (suX4_hashWith trivial) (fun x4 m9 e9 => ?_)
    obtain ⟨rfl, rfl⟩ := e9
    refine Wq.lstore (ls2 := [some (pO 10 8 0), none, none, some (pI x3), some (pL ((31 * x4) + (Int32.toInt64 r2))), none, some (pI x6)]) dX4_hashWithPupil_26 (by decide) rfl ?_
    refine Wq.iinc (x := x6) (ls2 := [some (pO 10 8 0), none, none, some (pI x3), some (pL ((31 * x4) + (Int32.toInt64 r2))), none, some (pI (x6 + 1))]) dX4_hashWithPupil_28 rfl (by decide) rfl ?_
    refine Wq.goto (tgt := 6) dX4_hashWithPupil_31 (by decide) ?_
    exact h
set_option maxHeartbeats 4000000 in
set_option maxRecDepth 20000 in
theorem sgX4_hashWithPupil_37 {g : GG} {d : Nat} {c n : Nat} {m : PM} {Q : Ou → PM → Nat → Nat → Prop} {x3 : Int32} {x4 : Int64} {x6 : Int32} (h : ((2 < x6 → Q (.inl (some (pL x4))) m c n) ∧ (¬ 2 < x6 → Wp g (d + 6) MX4_earliest 0 [some (pO 10 8 0), some (pI x3), some (pI x6)] [] m (cI fun r2 m3 => Wq g (d + 7) MX4_hashWithPupil c n 37 [some (pO 10 8 0), none, none, some (pI x3), some (pL ((31 * x4) + (Int32.toInt64 r2))), none, some (pI (x6 + 1))] [] m3 Q)))) : Wq g (d + 7) MX4_hashWithPupil c n 37 [some (pO 10 8 0), none, none, some (pI x3), some (pL x4), none, some (pI x6)] [] m Q := by
  refine Wq.iload (x := x6) dX4_hashWithPupil_37 rfl ?_
  refine Wq.iconst (v := 2) dX4_hashWithPupil_39 (by decide) ?_
  refine Wq.icmpgt (tgt := 64) dX4_hashWithPupil_40 (by decide) (fun q1 => ?_) (fun q1 => ?_)
  · replace h := h.1 q1
    refine Wq.lload (x := x4) dX4_hashWithPupil_64 rfl ?_
    exact Wq.lret dX4_hashWithPupil_66 rfl h
  · replace h := h.2 q1
    refine Wq.lload (x := x4) dX4_hashWithPupil_43 rfl ?_
    refine Wq.aload_n (t := 10) (r := 8) (j := 0) dX4_hashWithPupil_45 rfl ?_
    refine Wq.iload_n (x := x3) dX4_hashWithPupil_46 rfl ?_
    refine Wq.iload (x := x6) dX4_hashWithPupil_47 rfl ?_
    refine Wq.callVI (As := [pI x3, pI x6]) dX4_hashWithPupil_49 fX4_earliest ml_X4_280 rfl (by decide) rfl (Nat.le_of_ble_eq_true rfl) (Nat.le_of_ble_eq_true rfl) h (fun r2 m3 h => ?_)
    refine Wq.i2l dX4_hashWithPupil_52 ?_
    refine Wq.callSL (As := [pL x4, pL (Int32.toInt64 r2)]) dX4_hashWithPupil_53 fX4_hashWith ml_X4_225 rfl (Nat.le_of_ble_eq_true rfl) (Nat.le_of_ble_eq_true rfl) (suX4_hashWith trivial) (fun x4 m9 e9 => ?_)
    obtain ⟨rfl, rfl⟩ := e9
    refine Wq.lstore (ls2 := [some (pO 10 8 0), none, none, some (pI x3), some (pL ((31 * x4) + (Int32.toInt64 r2))), none, some (pI x6)]) dX4_hashWithPupil_56 (by decide) rfl ?_
    refine Wq.iinc (x := x6) (ls2 := [some (pO 10 8 0), none, none, some (pI x3), some (pL ((31 * x4) + (Int32.toInt64 r2))), none, some (pI (x6 + 1))]) dX4_hashWithPupil_58 rfl (by decide) rfl ?_
    refine Wq.goto (tgt := 37) dX4_hashWithPupil_61 (by decide) ?_
    exact h
set_option maxHeartbeats 4000000 in
set_option maxRecDepth 20000 in
theorem sgX4_hashWithExaminer {g : GG} {d : Nat} {c n : Nat} {m : PM} {Q : Ou → PM → Nat → Nat → Prop} {x1 : Int64} {x2 : Int32} (h : Wq g (d + 7) MX4_hashWithExaminer c n 6 [some (pO 10 8 0), none, none, some (pI x2), some (pL x1), none, some (pI 0), none] [] m Q) : Wq g (d + 7) MX4_hashWithExaminer c n 0 [some (pO 10 8 0), some (pL x1), none, some (pI x2)] [] m Q := by
  refine Wq.few (ls' := [some (pO 10 8 0), some (pL x1), none, some (pI x2), none, none, none, none]) ⟨rfl, ⟨rfl, ⟨rfl, trivial⟩⟩⟩ ?_
  refine Wq.lload_n (x := x1) dX4_hashWithExaminer_0 rfl ?_
  refine Wq.lstore (ls2 := [some (pO 10 8 0), some (pL x1), none, some (pI x2), some (pL x1), none, none, none]) dX4_hashWithExaminer_1 (by decide) rfl ?_
  refine Wq.iconst (v := 0) dX4_hashWithExaminer_3 (by decide) ?_
  refine Wq.istore (ls2 := [some (pO 10 8 0), some (pL x1), none, some (pI x2), some (pL x1), none, some (pI 0), none]) dX4_hashWithExaminer_4 (by decide) rfl ?_
  refine Wq.few (ls' := [some (pO 10 8 0), none, none, some (pI x2), some (pL x1), none, some (pI 0), none]) ⟨rfl, ⟨rfl, ⟨rfl, ⟨rfl, trivial⟩⟩⟩⟩ ?_
  exact h
set_option maxHeartbeats 4000000 in
set_option maxRecDepth 20000 in
theorem sgX4_hashWithExaminer_6 {g : GG} {d : Nat} {c n : Nat} {m : PM} {Q : Ou → PM → Nat → Nat → Prop} {x3 : Int32} {x4 : Int64} {x6 : Int32} (h : ((8 < x6 → Wq g (d + 7) MX4_hashWithExaminer c n 37 [some (pO 10 8 0), none, none, some (pI x3), some (pL x4), none, some (pI 0), none] [] m Q) ∧ (¬ 8 < x6 → Wp g (d + 6) MX4_examiner 0 [some (pO 10 8 0), some (pI x3), some (pI x6)] [] m (cI fun r2 m3 => Wq g (d + 7) MX4_hashWithExaminer c n 6 [some (pO 10 8 0), none, none, some (pI x3), some (pL ((31 * x4) + (Int32.toInt64 r2))), none, some (pI (x6 + 1)), none] [] m3 Q)))) : Wq g (d + 7) MX4_hashWithExaminer c n 6 [some (pO 10 8 0), none, none, some (pI x3), some (pL x4), none, some (pI x6), none] [] m Q := by
  refine Wq.iload (x := x6) dX4_hashWithExaminer_6 rfl ?_
  refine Wq.bipush (v := 8) dX4_hashWithExaminer_8 (by decide) ?_
  refine Wq.icmpgt (tgt := 34) dX4_hashWithExaminer_10 (by decide) (fun q1 => ?_) (fun q1 => ?_)
  · replace h := h.1 q1
    refine Wq.iconst (v := 0) dX4_hashWithExaminer_34 (by decide) ?_
    refine Wq.istore (ls2 := [some (pO 10 8 0), none, none, some (pI x3), some (pL x4), none, some (pI 0), none]) dX4_hashWithExaminer_35 (by decide) rfl ?_
    exact h
  · replace h := h.2 q1
    refine Wq.lload (x := x4) dX4_hashWithExaminer_13 rfl ?_
    refine Wq.aload_n (t := 10) (r := 8) (j := 0) dX4_hashWithExaminer_15 rfl ?_
    refine Wq.iload_n (x := x3) dX4_hashWithExaminer_16 rfl ?_
    refine Wq.iload (x := x6) dX4_hashWithExaminer_17 rfl ?_
    refine Wq.callVI (As := [pI x3, pI x6]) dX4_hashWithExaminer_19 fX4_examiner ml_X4_283 rfl (by decide) rfl (Nat.le_of_ble_eq_true rfl) (Nat.le_of_ble_eq_true rfl) h (fun r2 m3 h => ?_)
    refine Wq.i2l dX4_hashWithExaminer_22 ?_
    refine Wq.callSL (As := [pL x4, pL (Int32.toInt64 r2)]) dX4_hashWithExaminer_23 fX4_hashWith ml_X4_225 rfl (Nat.le_of_ble_eq_true rfl) (Nat.le_of_ble_eq_true rfl) (suX4_hashWith trivial) (fun x4 m9 e9 => ?_)
    obtain ⟨rfl, rfl⟩ := e9
    refine Wq.lstore (ls2 := [some (pO 10 8 0), none, none, some (pI x3), some (pL ((31 * x4) + (Int32.toInt64 r2))), none, some (pI x6), none]) dX4_hashWithExaminer_26 (by decide) rfl ?_
    refine Wq.iinc (x := x6) (ls2 := [some (pO 10 8 0), none, none, some (pI x3), some (pL ((31 * x4) + (Int32.toInt64 r2))), none, some (pI (x6 + 1)), none]) dX4_hashWithExaminer_28 rfl (by decide) rfl ?_
    refine Wq.goto (tgt := 6) dX4_hashWithExaminer_31 (by decide) ?_
    exact h
set_option maxHeartbeats 4000000 in
set_option maxRecDepth 20000 in
theorem sgX4_hashWithExaminer_37 {g : GG} {d : Nat} {c n : Nat} {m : PM} {Q : Ou → PM → Nat → Nat → Prop} {x3 : Int32} {x4 : Int64} {x6 : Int32} (h : ((10 ≤ x6 → Wq g (d + 7) MX4_hashWithExaminer c n 85 [some (pO 10 8 0), none, none, some (pI x3), some (pL x4), none, some (pI 0), none] [] m Q) ∧ (¬ 10 ≤ x6 → Wq g (d + 7) MX4_hashWithExaminer c n 47 [some (pO 10 8 0), none, none, some (pI x3), some (pL x4), none, some (pI x6), some (pI 0)] [] m Q))) : Wq g (d + 7) MX4_hashWithExaminer c n 37 [some (pO 10 8 0), none, none, some (pI x3), some (pL x4), none, some (pI x6), none] [] m Q := by
  refine Wq.iload (x := x6) dX4_hashWithExaminer_37 rfl ?_
  refine Wq.bipush (v := 10) dX4_hashWithExaminer_39 (by decide) ?_
  refine Wq.icmpge (tgt := 82) dX4_hashWithExaminer_41 (by decide) (fun q1 => ?_) (fun q1 => ?_)
  · replace h := h.1 q1
    refine Wq.iconst (v := 0) dX4_hashWithExaminer_82 (by decide) ?_
    refine Wq.istore (ls2 := [some (pO 10 8 0), none, none, some (pI x3), some (pL x4), none, some (pI 0), none]) dX4_hashWithExaminer_83 (by decide) rfl ?_
    exact h
  · replace h := h.2 q1
    refine Wq.iconst (v := 0) dX4_hashWithExaminer_44 (by decide) ?_
    refine Wq.istore (ls2 := [some (pO 10 8 0), none, none, some (pI x3), some (pL x4), none, some (pI x6), some (pI 0)]) dX4_hashWithExaminer_45 (by decide) rfl ?_
    exact h
set_option maxHeartbeats 4000000 in
set_option maxRecDepth 20000 in
theorem sgX4_hashWithExaminer_47 {g : GG} {d : Nat} {c n : Nat} {m : PM} {Q : Ou → PM → Nat → Nat → Prop} {x3 : Int32} {x4 : Int64} {x6 : Int32} {x7 : Int32} (h : ((4 ≤ x7 → Wq g (d + 7) MX4_hashWithExaminer c n 37 [some (pO 10 8 0), none, none, some (pI x3), some (pL x4), none, some (pI (x6 + 1)), none] [] m Q) ∧ (¬ 4 ≤ x7 → Wp g (d + 6) MX4_slot 0 [some (pO 10 8 0), some (pI x3), some (pI x6), some (pI x7)] [] m (cI fun r2 m3 => Wq g (d + 7) MX4_hashWithExaminer c n 47 [some (pO 10 8 0), none, none, some (pI x3), some (pL ((31 * x4) + (Int32.toInt64 r2))), none, some (pI x6), some (pI (x7 + 1))] [] m3 Q)))) : Wq g (d + 7) MX4_hashWithExaminer c n 47 [some (pO 10 8 0), none, none, some (pI x3), some (pL x4), none, some (pI x6), some (pI x7)] [] m Q := by
  refine Wq.iload (x := x7) dX4_hashWithExaminer_47 rfl ?_
  refine Wq.iconst (v := 4) dX4_hashWithExaminer_49 (by decide) ?_
  refine Wq.icmpge (tgt := 76) dX4_hashWithExaminer_50 (by decide) (fun q1 => ?_) (fun q1 => ?_)
  · replace h := h.1 q1
    refine Wq.iinc (x := x6) (ls2 := [some (pO 10 8 0), none, none, some (pI x3), some (pL x4), none, some (pI (x6 + 1)), some (pI x7)]) dX4_hashWithExaminer_76 rfl (by decide) rfl ?_
    refine Wq.goto (tgt := 37) dX4_hashWithExaminer_79 (by decide) ?_
    refine Wq.few (ls' := [some (pO 10 8 0), none, none, some (pI x3), some (pL x4), none, some (pI (x6 + 1)), none]) ⟨rfl, ⟨rfl, ⟨rfl, ⟨rfl, trivial⟩⟩⟩⟩ ?_
    exact h
  · replace h := h.2 q1
    refine Wq.lload (x := x4) dX4_hashWithExaminer_53 rfl ?_
    refine Wq.aload_n (t := 10) (r := 8) (j := 0) dX4_hashWithExaminer_55 rfl ?_
    refine Wq.iload_n (x := x3) dX4_hashWithExaminer_56 rfl ?_
    refine Wq.iload (x := x6) dX4_hashWithExaminer_57 rfl ?_
    refine Wq.iload (x := x7) dX4_hashWithExaminer_59 rfl ?_
    refine Wq.callVI (As := [pI x3, pI x6, pI x7]) dX4_hashWithExaminer_61 fX4_slot ml_X4_286 rfl (by decide) rfl (Nat.le_of_ble_eq_true rfl) (Nat.le_of_ble_eq_true rfl) h (fun r2 m3 h => ?_)
    refine Wq.i2l dX4_hashWithExaminer_64 ?_
    refine Wq.callSL (As := [pL x4, pL (Int32.toInt64 r2)]) dX4_hashWithExaminer_65 fX4_hashWith ml_X4_225 rfl (Nat.le_of_ble_eq_true rfl) (Nat.le_of_ble_eq_true rfl) (suX4_hashWith trivial) (fun x4 m9 e9 => ?_)
    obtain ⟨rfl, rfl⟩ := e9
    refine Wq.lstore (ls2 := [some (pO 10 8 0), none, none, some (pI x3), some (pL ((31 * x4) + (Int32.toInt64 r2))), none, some (pI x6), some (pI x7)]) dX4_hashWithExaminer_68 (by decide) rfl ?_
    refine Wq.iinc (x := x7) (ls2 := [some (pO 10 8 0), none, none, some (pI x3), some (pL ((31 * x4) + (Int32.toInt64 r2))), none, some (pI x6), some (pI (x7 + 1))]) dX4_hashWithExaminer_70 rfl (by decide) rfl ?_
    refine Wq.goto (tgt := 47) dX4_hashWithExaminer_73 (by decide) ?_
    exact h
set_option maxHeartbeats 4000000 in
set_option maxRecDepth 20000 in
theorem sgX4_hashWithExaminer_85 {g : GG} {d : Nat} {c n : Nat} {m : PM} {Q : Ou → PM → Nat → Nat → Prop} {x3 : Int32} {x4 : Int64} {x6 : Int32} (h : ((1 < x6 → ((¬ ((¬ (0 : Int32) < 0) ∧ (¬ (m.1 0 0 0 2) ≤ (0 : Int32))) → Q (.inl (some (pL x4))) m c n) ∧ ((¬ (0 : Int32) < 0) ∧ (¬ (m.1 0 0 0 2) ≤ (0 : Int32)) → Wp g (d + 6) MX4_ifTested 0 [some (pO 10 8 0), some (pI 0), some (pI x3)] [] m (cI fun r3 m4 => Q (.inl (some (pL ((31 * x4) + (Int32.toInt64 r3))))) m4 c n)))) ∧ (¬ 1 < x6 → Wq g (d + 7) MX4_hashWithExaminer c n 94 [some (pO 10 8 0), none, none, some (pI x3), some (pL x4), none, some (pI x6), some (pI 0)] [] m Q))) : Wq g (d + 7) MX4_hashWithExaminer c n 85 [some (pO 10 8 0), none, none, some (pI x3), some (pL x4), none, some (pI x6), none] [] m Q := by
  refine Wq.iload (x := x6) dX4_hashWithExaminer_85 rfl ?_
  refine Wq.iconst (v := 1) dX4_hashWithExaminer_87 (by decide) ?_
  refine Wq.icmpgt (tgt := 129) dX4_hashWithExaminer_88 (by decide) (fun q1 => ?_) (fun q1 => ?_)
  · replace h := h.1 q1
    refine Wq.aload_n (t := 10) (r := 8) (j := 0) dX4_hashWithExaminer_129 rfl ?_
    refine Wq.getf (v := pO 0 0 0) dX4_hashWithExaminer_130 fl_X4_12 ⟨rfl, rfl, by decide⟩ rfl ?_
    refine Wq.iconst (v := 0) dX4_hashWithExaminer_133 (by decide) ?_
    refine Wq.callVI (As := [pI 0]) dX4_hashWithExaminer_134 fX1_hasPupil ml_X4_59 rfl (by decide) rfl (Nat.le_of_ble_eq_true rfl) (Nat.le_of_ble_eq_true rfl) (suX1_hasPupil trivial) (fun x6 m9 e9 => ?_)
    obtain ⟨rfl, rfl⟩ := e9
    refine Wq.ifeq (tgt := 155) dX4_hashWithExaminer_137 (by decide) (fun q2 => ?_) (fun q2 => ?_)
    · replace h := h.1 (bI_0 q2)
      refine Wq.lload (x := x4) dX4_hashWithExaminer_155 rfl ?_
      exact Wq.lret dX4_hashWithExaminer_157 rfl h
    · replace h := h.2 (bI_1 q2)
      refine Wq.lload (x := x4) dX4_hashWithExaminer_140 rfl ?_
      refine Wq.aload_n (t := 10) (r := 8) (j := 0) dX4_hashWithExaminer_142 rfl ?_
      refine Wq.iconst (v := 0) dX4_hashWithExaminer_143 (by decide) ?_
      refine Wq.iload_n (x := x3) dX4_hashWithExaminer_144 rfl ?_
      refine Wq.callVI (As := [pI 0, pI x3]) dX4_hashWithExaminer_145 fX4_ifTested ml_X4_292 rfl (by decide) rfl (Nat.le_of_ble_eq_true rfl) (Nat.le_of_ble_eq_true rfl) h (fun r3 m4 h => ?_)
      refine Wq.i2l dX4_hashWithExaminer_148 ?_
      refine Wq.callSL (As := [pL x4, pL (Int32.toInt64 r3)]) dX4_hashWithExaminer_149 fX4_hashWith ml_X4_225 rfl (Nat.le_of_ble_eq_true rfl) (Nat.le_of_ble_eq_true rfl) (suX4_hashWith trivial) (fun x5 m9 e9 => ?_)
      obtain ⟨rfl, rfl⟩ := e9
      refine Wq.goto (tgt := 157) dX4_hashWithExaminer_152 (by decide) ?_
      exact Wq.lret dX4_hashWithExaminer_157 rfl h
  · replace h := h.2 q1
    refine Wq.iconst (v := 0) dX4_hashWithExaminer_91 (by decide) ?_
    refine Wq.istore (ls2 := [some (pO 10 8 0), none, none, some (pI x3), some (pL x4), none, some (pI x6), some (pI 0)]) dX4_hashWithExaminer_92 (by decide) rfl ?_
    exact h
set_option maxHeartbeats 4000000 in
set_option maxRecDepth 20000 in
theorem sgX4_hashWithExaminer_94 {g : GG} {d : Nat} {c n : Nat} {m : PM} {Q : Ou → PM → Nat → Nat → Prop} {x3 : Int32} {x4 : Int64} {x6 : Int32} {x7 : Int32} (h : ((2 < x7 → Wq g (d + 7) MX4_hashWithExaminer c n 85 [some (pO 10 8 0), none, none, some (pI x3), some (pL x4), none, some (pI (x6 + 1)), none] [] m Q) ∧ (¬ 2 < x7 → Wp g (d + 6) MX4_ifCancelled 0 [some (pO 10 8 0), some (pI x3), some (pI x6), some (pI x7)] [] m (cI fun r2 m3 => Wq g (d + 7) MX4_hashWithExaminer c n 94 [some (pO 10 8 0), none, none, some (pI x3), some (pL ((31 * x4) + (Int32.toInt64 r2))), none, some (pI x6), some (pI (x7 + 1))] [] m3 Q)))) : Wq g (d + 7) MX4_hashWithExaminer c n 94 [some (pO 10 8 0), none, none, some (pI x3), some (pL x4), none, some (pI x6), some (pI x7)] [] m Q := by
  refine Wq.iload (x := x7) dX4_hashWithExaminer_94 rfl ?_
  refine Wq.iconst (v := 2) dX4_hashWithExaminer_96 (by decide) ?_
  refine Wq.icmpgt (tgt := 123) dX4_hashWithExaminer_97 (by decide) (fun q1 => ?_) (fun q1 => ?_)
  · replace h := h.1 q1
    refine Wq.iinc (x := x6) (ls2 := [some (pO 10 8 0), none, none, some (pI x3), some (pL x4), none, some (pI (x6 + 1)), some (pI x7)]) dX4_hashWithExaminer_123 rfl (by decide) rfl ?_
    refine Wq.goto (tgt := 85) dX4_hashWithExaminer_126 (by decide) ?_
    refine Wq.few (ls' := [some (pO 10 8 0), none, none, some (pI x3), some (pL x4), none, some (pI (x6 + 1)), none]) ⟨rfl, ⟨rfl, ⟨rfl, ⟨rfl, trivial⟩⟩⟩⟩ ?_
    exact h
  · replace h := h.2 q1
    refine Wq.lload (x := x4) dX4_hashWithExaminer_100 rfl ?_
    refine Wq.aload_n (t := 10) (r := 8) (j := 0) dX4_hashWithExaminer_102 rfl ?_
    refine Wq.iload_n (x := x3) dX4_hashWithExaminer_103 rfl ?_
    refine Wq.iload (x := x6) dX4_hashWithExaminer_104 rfl ?_
    refine Wq.iload (x := x7) dX4_hashWithExaminer_106 rfl ?_
    refine Wq.callVI (As := [pI x3, pI x6, pI x7]) dX4_hashWithExaminer_108 fX4_ifCancelled ml_X4_289 rfl (by decide) rfl (Nat.le_of_ble_eq_true rfl) (Nat.le_of_ble_eq_true rfl) h (fun r2 m3 h => ?_)
    refine Wq.i2l dX4_hashWithExaminer_111 ?_
    refine Wq.callSL (As := [pL x4, pL (Int32.toInt64 r2)]) dX4_hashWithExaminer_112 fX4_hashWith ml_X4_225 rfl (Nat.le_of_ble_eq_true rfl) (Nat.le_of_ble_eq_true rfl) (suX4_hashWith trivial) (fun x4 m9 e9 => ?_)
    obtain ⟨rfl, rfl⟩ := e9
    refine Wq.lstore (ls2 := [some (pO 10 8 0), none, none, some (pI x3), some (pL ((31 * x4) + (Int32.toInt64 r2))), none, some (pI x6), some (pI x7)]) dX4_hashWithExaminer_115 (by decide) rfl ?_
    refine Wq.iinc (x := x7) (ls2 := [some (pO 10 8 0), none, none, some (pI x3), some (pL ((31 * x4) + (Int32.toInt64 r2))), none, some (pI x6), some (pI (x7 + 1))]) dX4_hashWithExaminer_117 rfl (by decide) rfl ?_
    refine Wq.goto (tgt := 94) dX4_hashWithExaminer_120 (by decide) ?_
    exact h
set_option maxHeartbeats 4000000 in
set_option maxRecDepth 20000 in
theorem sgX4_digest {g : GG} {d : Nat} {c n : Nat} {m : PM} {Q : Ou → PM → Nat → Nat → Prop}  (h : Wq g (d + 8) MX4_digest c n 6 [some (pO 10 8 0), some (pL 2731), none, some (pI 0)] [] m Q) : Wq g (d + 8) MX4_digest c n 0 [some (pO 10 8 0)] [] m Q := by
  refine Wq.few (ls' := [some (pO 10 8 0), none, none, none]) ⟨rfl, trivial⟩ ?_
  refine Wq.ldc2 dX4_digest_0 lc_X4_220 ?_
  refine Wq.lstore_n (ls2 := [some (pO 10 8 0), some (pL 2731), none, none]) dX4_digest_3 (by decide) rfl ?_
  refine Wq.iconst (v := 0) dX4_digest_4 (by decide) ?_
  refine Wq.istore_n (ls2 := [some (pO 10 8 0), some (pL 2731), none, some (pI 0)]) dX4_digest_5 (by decide) rfl ?_
  exact h
set_option maxHeartbeats 4000000 in
set_option maxRecDepth 20000 in
theorem sgX4_digest_6 {g : GG} {d : Nat} {c n : Nat} {m : PM} {Q : Ou → PM → Nat → Nat → Prop} {x1 : Int64} {x3 : Int32} (h : ((14 < x3 → Wq g (d + 8) MX4_digest c n 31 [some (pO 10 8 0), some (pL x1), none, some (pI 0)] [] m Q) ∧ (¬ 14 < x3 → Wp g (d + 7) MX4_count 0 [some (pO 10 8 0), some (pI x3)] [] m (cI fun r2 m3 => Wq g (d + 8) MX4_digest c n 6 [some (pO 10 8 0), some (pL ((31 * x1) + (Int32.toInt64 r2))), none, some (pI (x3 + 1))] [] m3 Q)))) : Wq g (d + 8) MX4_digest c n 6 [some (pO 10 8 0), some (pL x1), none, some (pI x3)] [] m Q := by
  refine Wq.iload_n (x := x3) dX4_digest_6 rfl ?_
  refine Wq.bipush (v := 14) dX4_digest_7 (by decide) ?_
  refine Wq.icmpgt (tgt := 29) dX4_digest_9 (by decide) (fun q1 => ?_) (fun q1 => ?_)
  · replace h := h.1 q1
    refine Wq.iconst (v := 0) dX4_digest_29 (by decide) ?_
    refine Wq.istore_n (ls2 := [some (pO 10 8 0), some (pL x1), none, some (pI 0)]) dX4_digest_30 (by decide) rfl ?_
    exact h
  · replace h := h.2 q1
    refine Wq.lload_n (x := x1) dX4_digest_12 rfl ?_
    refine Wq.aload_n (t := 10) (r := 8) (j := 0) dX4_digest_13 rfl ?_
    refine Wq.iload_n (x := x3) dX4_digest_14 rfl ?_
    refine Wq.callVI (As := [pI x3]) dX4_digest_15 fX4_count ml_X4_222 rfl (by decide) rfl (Nat.le_of_ble_eq_true rfl) (Nat.le_of_ble_eq_true rfl) h (fun r2 m3 h => ?_)
    refine Wq.i2l dX4_digest_18 ?_
    refine Wq.callSL (As := [pL x1, pL (Int32.toInt64 r2)]) dX4_digest_19 fX4_hashWith ml_X4_225 rfl (Nat.le_of_ble_eq_true rfl) (Nat.le_of_ble_eq_true rfl) (suX4_hashWith trivial) (fun x4 m9 e9 => ?_)
    obtain ⟨rfl, rfl⟩ := e9
    refine Wq.lstore_n (ls2 := [some (pO 10 8 0), some (pL ((31 * x1) + (Int32.toInt64 r2))), none, some (pI x3)]) dX4_digest_22 (by decide) rfl ?_
    refine Wq.iinc (x := x3) (ls2 := [some (pO 10 8 0), some (pL ((31 * x1) + (Int32.toInt64 r2))), none, some (pI (x3 + 1))]) dX4_digest_23 rfl (by decide) rfl ?_
    refine Wq.goto (tgt := 6) dX4_digest_26 (by decide) ?_
    exact h
set_option maxHeartbeats 4000000 in
set_option maxRecDepth 20000 in
theorem sgX4_digest_31 {g : GG} {d : Nat} {c n : Nat} {m : PM} {Q : Ou → PM → Nat → Nat → Prop} {x1 : Int64} {x3 : Int32} (h : ((4 ≤ x3 → Wq g (d + 8) MX4_digest c n 66 [some (pO 10 8 0), some (pL x1), none, some (pI 0)] [] m Q) ∧ (¬ 4 ≤ x3 → (vp_in x3 4 ∧ Wq g (d + 8) MX4_digest c n 31 [some (pO 10 8 0), some (pL ((31 * x1) + (Int32.toInt64 (m.1 0 1 0 (ix x3))))), none, some (pI (x3 + 1))] [] m Q)))) : Wq g (d + 8) MX4_digest c n 31 [some (pO 10 8 0), some (pL x1), none, some (pI x3)] [] m Q := by
  refine Wq.iload_n (x := x3) dX4_digest_31 rfl ?_
  refine Wq.aload_n (t := 10) (r := 8) (j := 0) dX4_digest_32 rfl ?_
  refine Wq.getf (v := pO 0 0 0) dX4_digest_33 fl_X4_12 ⟨rfl, rfl, by decide⟩ rfl ?_
  refine Wq.getf (v := pO 1 0 0) dX4_digest_36 fl_X4_132 ⟨rfl, rfl, by decide⟩ rfl ?_
  refine Wq.alen (v := 4) dX4_digest_39 rfl (by decide) rfl ?_
  refine Wq.icmpge (tgt := 64) dX4_digest_40 (by decide) (fun q1 => ?_) (fun q1 => ?_)
  · replace h := h.1 q1
    refine Wq.iconst (v := 0) dX4_digest_64 (by decide) ?_
    refine Wq.istore_n (ls2 := [some (pO 10 8 0), some (pL x1), none, some (pI 0)]) dX4_digest_65 (by decide) rfl ?_
    exact h
  · replace h := h.2 q1
    refine Wq.lload_n (x := x1) dX4_digest_43 rfl ?_
    refine Wq.aload_n (t := 10) (r := 8) (j := 0) dX4_digest_44 rfl ?_
    refine Wq.getf (v := pO 0 0 0) dX4_digest_45 fl_X4_12 ⟨rfl, rfl, by decide⟩ rfl ?_
    refine Wq.getf (v := pO 1 0 0) dX4_digest_48 fl_X4_132 ⟨rfl, rfl, by decide⟩ rfl ?_
    refine Wq.iload_n (x := x3) dX4_digest_51 rfl ?_
    refine Wq.iald dX4_digest_52 rfl h.1 ?_
    replace h := h.2
    refine Wq.i2l dX4_digest_53 ?_
    refine Wq.callSL (As := [pL x1, pL (Int32.toInt64 (m.1 0 1 0 (ix x3)))]) dX4_digest_54 fX4_hashWith ml_X4_225 rfl (Nat.le_of_ble_eq_true rfl) (Nat.le_of_ble_eq_true rfl) (suX4_hashWith trivial) (fun x2 m9 e9 => ?_)
    obtain ⟨rfl, rfl⟩ := e9
    refine Wq.lstore_n (ls2 := [some (pO 10 8 0), some (pL ((31 * x1) + (Int32.toInt64 (m.1 0 1 0 (ix x3))))), none, some (pI x3)]) dX4_digest_57 (by decide) rfl ?_
    refine Wq.iinc (x := x3) (ls2 := [some (pO 10 8 0), some (pL ((31 * x1) + (Int32.toInt64 (m.1 0 1 0 (ix x3))))), none, some (pI (x3 + 1))]) dX4_digest_58 rfl (by decide) rfl ?_
    refine Wq.goto (tgt := 31) dX4_digest_61 (by decide) ?_
    exact h
set_option maxHeartbeats 4000000 in
set_option maxRecDepth 20000 in
theorem sgX4_digest_66 {g : GG} {d : Nat} {c n : Nat} {m : PM} {Q : Ou → PM → Nat → Nat → Prop} {x1 : Int64} {x3 : Int32} (h : (((m.1 0 0 0 2) ≤ x3 → Wq g (d + 8) MX4_digest c n 92 [some (pO 10 8 0), some (pL x1), none, some (pI 0)] [] m Q) ∧ (¬ (m.1 0 0 0 2) ≤ x3 → Wp g (d + 7) MX4_hashWithPupil 0 [some (pO 10 8 0), some (pL x1), none, some (pI x3)] [] m (cL fun r2 m3 => Wq g (d + 8) MX4_digest c n 66 [some (pO 10 8 0), some (pL r2), none, some (pI (x3 + 1))] [] m3 Q)))) : Wq g (d + 8) MX4_digest c n 66 [some (pO 10 8 0), some (pL x1), none, some (pI x3)] [] m Q := by
  refine Wq.iload_n (x := x3) dX4_digest_66 rfl ?_
  refine Wq.aload_n (t := 10) (r := 8) (j := 0) dX4_digest_67 rfl ?_
  refine Wq.getf (v := pO 0 0 0) dX4_digest_68 fl_X4_12 ⟨rfl, rfl, by decide⟩ rfl ?_
  refine Wq.getf (v := pI (m.1 0 0 0 2)) dX4_digest_71 fl_X4_51 ⟨rfl, rfl, by decide⟩ rfl ?_
  refine Wq.icmpge (tgt := 90) dX4_digest_74 (by decide) (fun q1 => ?_) (fun q1 => ?_)
  · replace h := h.1 q1
    refine Wq.iconst (v := 0) dX4_digest_90 (by decide) ?_
    refine Wq.istore_n (ls2 := [some (pO 10 8 0), some (pL x1), none, some (pI 0)]) dX4_digest_91 (by decide) rfl ?_
    exact h
  · replace h := h.2 q1
    refine Wq.aload_n (t := 10) (r := 8) (j := 0) dX4_digest_77 rfl ?_
    refine Wq.lload_n (x := x1) dX4_digest_78 rfl ?_
    refine Wq.iload_n (x := x3) dX4_digest_79 rfl ?_
    refine Wq.callVL (As := [pL x1, pI x3]) dX4_digest_80 fX4_hashWithPupil ml_X4_229 rfl (by decide) rfl (Nat.le_of_ble_eq_true rfl) (Nat.le_of_ble_eq_true rfl) h (fun r2 m3 h => ?_)
    refine Wq.lstore_n (ls2 := [some (pO 10 8 0), some (pL r2), none, some (pI x3)]) dX4_digest_83 (by decide) rfl ?_
    refine Wq.iinc (x := x3) (ls2 := [some (pO 10 8 0), some (pL r2), none, some (pI (x3 + 1))]) dX4_digest_84 rfl (by decide) rfl ?_
    refine Wq.goto (tgt := 66) dX4_digest_87 (by decide) ?_
    exact h
set_option maxHeartbeats 4000000 in
set_option maxRecDepth 20000 in
theorem sgX4_digest_92 {g : GG} {d : Nat} {c n : Nat} {m : PM} {Q : Ou → PM → Nat → Nat → Prop} {x1 : Int64} {x3 : Int32} (h : (((m.1 0 0 0 1) ≤ x3 → Wp g (d + 7) MX4_couldHave 0 [some (pO 10 8 0), some (pI 0)] [] m (cI fun r2 m3 => Wp g (d + 7) MX4_couldHave 0 [some (pO 10 8 0), some (pI 1)] [] m3 (cI fun r4 m5 => Wp g (d + 7) MX4_couldHave 0 [some (pO 10 8 0), some (pI 5)] [] m5 (cI fun r6 m7 => Wp g (d + 7) MX4_passedShare 0 [some (pO 10 8 0)] [] m7 (cD fun r8 m9 => Wp g (d + 7) MX4_bitsOf 0 [some (pD r8), none] [] m9 (cL fun r10 m11 => Wq g (d + 8) MX4_digest c n 176 [some (pO 10 8 0), some (pL ((31 * ((31 * ((31 * ((31 * ((31 * x1) + (Int32.toInt64 r2))) + (Int32.toInt64 r4))) + (Int32.toInt64 r6))) + r10)) + (Int32.toInt64 (m11.1 8 12 0 1)))), none, some (pI 0)] [] m11 Q)))))) ∧ (¬ (m.1 0 0 0 1) ≤ x3 → Wp g (d + 7) MX4_hashWithExaminer 0 [some (pO 10 8 0), some (pL x1), none, some (pI x3)] [] m (cL fun r17 m18 => Wq g (d + 8) MX4_digest c n 92 [some (pO 10 8 0), some (pL r17), none, some (pI (x3 + 1))] [] m18 Q)))) : Wq g (d + 8) MX4_digest c n 92 [some (pO 10 8 0), some (pL x1), none, some (pI x3)] [] m Q := by
  refine Wq.iload_n (x := x3) dX4_digest_92 rfl ?_
  refine Wq.aload_n (t := 10) (r := 8) (j := 0) dX4_digest_93 rfl ?_
  refine Wq.getf (v := pO 0 0 0) dX4_digest_94 fl_X4_12 ⟨rfl, rfl, by decide⟩ rfl ?_
  refine Wq.getf (v := pI (m.1 0 0 0 1)) dX4_digest_97 fl_X4_34 ⟨rfl, rfl, by decide⟩ rfl ?_
  refine Wq.icmpge (tgt := 116) dX4_digest_100 (by decide) (fun q1 => ?_) (fun q1 => ?_)
  · replace h := h.1 q1
    refine Wq.lload_n (x := x1) dX4_digest_116 rfl ?_
    refine Wq.aload_n (t := 10) (r := 8) (j := 0) dX4_digest_117 rfl ?_
    refine Wq.iconst (v := 0) dX4_digest_118 (by decide) ?_
    refine Wq.callVI (As := [pI 0]) dX4_digest_119 fX4_couldHave ml_X4_236 rfl (by decide) rfl (Nat.le_of_ble_eq_true rfl) (Nat.le_of_ble_eq_true rfl) h (fun r2 m3 h => ?_)
    refine Wq.i2l dX4_digest_122 ?_
    refine Wq.callSL (As := [pL x1, pL (Int32.toInt64 r2)]) dX4_digest_123 fX4_hashWith ml_X4_225 rfl (Nat.le_of_ble_eq_true rfl) (Nat.le_of_ble_eq_true rfl) (suX4_hashWith trivial) (fun x16 m9 e9 => ?_)
    obtain ⟨rfl, rfl⟩ := e9
    refine Wq.lstore_n (ls2 := [some (pO 10 8 0), some (pL ((31 * x1) + (Int32.toInt64 r2))), none, some (pI x3)]) dX4_digest_126 (by decide) rfl ?_
    refine Wq.lload_n (x := ((31 * x1) + (Int32.toInt64 r2))) dX4_digest_127 rfl ?_
    refine Wq.aload_n (t := 10) (r := 8) (j := 0) dX4_digest_128 rfl ?_
    refine Wq.iconst (v := 1) dX4_digest_129 (by decide) ?_
    refine Wq.callVI (As := [pI 1]) dX4_digest_130 fX4_couldHave ml_X4_236 rfl (by decide) rfl (Nat.le_of_ble_eq_true rfl) (Nat.le_of_ble_eq_true rfl) h (fun r4 m5 h => ?_)
    refine Wq.i2l dX4_digest_133 ?_
    refine Wq.callSL (As := [pL ((31 * x1) + (Int32.toInt64 r2)), pL (Int32.toInt64 r4)]) dX4_digest_134 fX4_hashWith ml_X4_225 rfl (Nat.le_of_ble_eq_true rfl) (Nat.le_of_ble_eq_true rfl) (suX4_hashWith trivial) (fun x15 m9 e9 => ?_)
    obtain ⟨rfl, rfl⟩ := e9
    refine Wq.lstore_n (ls2 := [some (pO 10 8 0), some (pL ((31 * ((31 * x1) + (Int32.toInt64 r2))) + (Int32.toInt64 r4))), none, some (pI x3)]) dX4_digest_137 (by decide) rfl ?_
    refine Wq.lload_n (x := ((31 * ((31 * x1) + (Int32.toInt64 r2))) + (Int32.toInt64 r4))) dX4_digest_138 rfl ?_
    refine Wq.aload_n (t := 10) (r := 8) (j := 0) dX4_digest_139 rfl ?_
    refine Wq.iconst (v := 5) dX4_digest_140 (by decide) ?_
    refine Wq.callVI (As := [pI 5]) dX4_digest_141 fX4_couldHave ml_X4_236 rfl (by decide) rfl (Nat.le_of_ble_eq_true rfl) (Nat.le_of_ble_eq_true rfl) h (fun r6 m7 h => ?_)
    refine Wq.i2l dX4_digest_144 ?_
    refine Wq.callSL (As := [pL ((31 * ((31 * x1) + (Int32.toInt64 r2))) + (Int32.toInt64 r4)), pL (Int32.toInt64 r6)]) dX4_digest_145 fX4_hashWith ml_X4_225 rfl (Nat.le_of_ble_eq_true rfl) (Nat.le_of_ble_eq_true rfl) (suX4_hashWith trivial) (fun x14 m9 e9 => ?_)
    obtain ⟨rfl, rfl⟩ := e9
    refine Wq.lstore_n (ls2 := [some (pO 10 8 0), some (pL ((31 * ((31 * ((31 * x1) + (Int32.toInt64 r2))) + (Int32.toInt64 r4))) + (Int32.toInt64 r6))), none, some (pI x3)]) dX4_digest_148 (by decide) rfl ?_
    refine Wq.lload_n (x := ((31 * ((31 * ((31 * x1) + (Int32.toInt64 r2))) + (Int32.toInt64 r4))) + (Int32.toInt64 r6))) dX4_digest_149 rfl ?_
    refine Wq.aload_n (t := 10) (r := 8) (j := 0) dX4_digest_150 rfl ?_
    refine Wq.callVD (As := []) dX4_digest_151 fX4_passedShare ml_X4_239 rfl (by decide) rfl (Nat.le_of_ble_eq_true rfl) (Nat.le_of_ble_eq_true rfl) h (fun r8 m9 h => ?_)
    refine Wq.callSL (As := [pD r8]) dX4_digest_154 fX4_bitsOf ml_X4_243 rfl (Nat.le_of_ble_eq_true rfl) (Nat.le_of_ble_eq_true rfl) h (fun r10 m11 h => ?_)
    refine Wq.callSL (As := [pL ((31 * ((31 * ((31 * x1) + (Int32.toInt64 r2))) + (Int32.toInt64 r4))) + (Int32.toInt64 r6)), pL r10]) dX4_digest_157 fX4_hashWith ml_X4_225 rfl (Nat.le_of_ble_eq_true rfl) (Nat.le_of_ble_eq_true rfl) (suX4_hashWith trivial) (fun x13 m9 e9 => ?_)
    obtain ⟨rfl, rfl⟩ := e9
    refine Wq.lstore_n (ls2 := [some (pO 10 8 0), some (pL ((31 * ((31 * ((31 * ((31 * x1) + (Int32.toInt64 r2))) + (Int32.toInt64 r4))) + (Int32.toInt64 r6))) + r10)), none, some (pI x3)]) dX4_digest_160 (by decide) rfl ?_
    refine Wq.lload_n (x := ((31 * ((31 * ((31 * ((31 * x1) + (Int32.toInt64 r2))) + (Int32.toInt64 r4))) + (Int32.toInt64 r6))) + r10)) dX4_digest_161 rfl ?_
    refine Wq.aload_n (t := 10) (r := 8) (j := 0) dX4_digest_162 rfl ?_
    refine Wq.getf (v := pO 12 8 0) dX4_digest_163 fl_X4_30 ⟨rfl, rfl, by decide⟩ rfl ?_
    refine Wq.getf (v := pI (m11.1 8 12 0 1)) dX4_digest_166 fl_X4_146 ⟨rfl, rfl, by decide⟩ rfl ?_
    refine Wq.i2l dX4_digest_169 ?_
    refine Wq.callSL (As := [pL ((31 * ((31 * ((31 * ((31 * x1) + (Int32.toInt64 r2))) + (Int32.toInt64 r4))) + (Int32.toInt64 r6))) + r10), pL (Int32.toInt64 (m11.1 8 12 0 1))]) dX4_digest_170 fX4_hashWith ml_X4_225 rfl (Nat.le_of_ble_eq_true rfl) (Nat.le_of_ble_eq_true rfl) (suX4_hashWith trivial) (fun x12 m9 e9 => ?_)
    obtain ⟨rfl, rfl⟩ := e9
    refine Wq.lstore_n (ls2 := [some (pO 10 8 0), some (pL ((31 * ((31 * ((31 * ((31 * ((31 * x1) + (Int32.toInt64 r2))) + (Int32.toInt64 r4))) + (Int32.toInt64 r6))) + r10)) + (Int32.toInt64 (m11.1 8 12 0 1)))), none, some (pI x3)]) dX4_digest_173 (by decide) rfl ?_
    refine Wq.iconst (v := 0) dX4_digest_174 (by decide) ?_
    refine Wq.istore_n (ls2 := [some (pO 10 8 0), some (pL ((31 * ((31 * ((31 * ((31 * ((31 * x1) + (Int32.toInt64 r2))) + (Int32.toInt64 r4))) + (Int32.toInt64 r6))) + r10)) + (Int32.toInt64 (m11.1 8 12 0 1)))), none, some (pI 0)]) dX4_digest_175 (by decide) rfl ?_
    exact h
  · replace h := h.2 q1
    refine Wq.aload_n (t := 10) (r := 8) (j := 0) dX4_digest_103 rfl ?_
    refine Wq.lload_n (x := x1) dX4_digest_104 rfl ?_
    refine Wq.iload_n (x := x3) dX4_digest_105 rfl ?_
    refine Wq.callVL (As := [pL x1, pI x3]) dX4_digest_106 fX4_hashWithExaminer ml_X4_233 rfl (by decide) rfl (Nat.le_of_ble_eq_true rfl) (Nat.le_of_ble_eq_true rfl) h (fun r17 m18 h => ?_)
    refine Wq.lstore_n (ls2 := [some (pO 10 8 0), some (pL r17), none, some (pI x3)]) dX4_digest_109 (by decide) rfl ?_
    refine Wq.iinc (x := x3) (ls2 := [some (pO 10 8 0), some (pL r17), none, some (pI (x3 + 1))]) dX4_digest_110 rfl (by decide) rfl ?_
    refine Wq.goto (tgt := 92) dX4_digest_113 (by decide) ?_
    exact h
set_option maxHeartbeats 4000000 in
set_option maxRecDepth 20000 in
theorem sgX4_digest_176 {g : GG} {d : Nat} {c n : Nat} {m : PM} {Q : Ou → PM → Nat → Nat → Prop} {x1 : Int64} {x3 : Int32} (h : ((60 ≤ x3 → Q (.inl (some (pL x1))) m c n) ∧ (¬ 60 ≤ x3 → (((m.1 8 12 0 1) ≤ x3 → Q (.inl (some (pL x1))) m c n) ∧ (¬ (m.1 8 12 0 1) ≤ x3 → (vp_in x3 60 ∧ Wq g (d + 8) MX4_digest c n 176 [some (pO 10 8 0), some (pL ((31 * x1) + (Int32.toInt64 (m.1 8 13 0 (ix x3))))), none, some (pI (x3 + 1))] [] m Q)))))) : Wq g (d + 8) MX4_digest c n 176 [some (pO 10 8 0), some (pL x1), none, some (pI x3)] [] m Q := by
  refine Wq.iload_n (x := x3) dX4_digest_176 rfl ?_
  refine Wq.aload_n (t := 10) (r := 8) (j := 0) dX4_digest_177 rfl ?_
  refine Wq.getf (v := pO 12 8 0) dX4_digest_178 fl_X4_30 ⟨rfl, rfl, by decide⟩ rfl ?_
  refine Wq.getf (v := pO 13 8 0) dX4_digest_181 fl_X4_247 ⟨rfl, rfl, by decide⟩ rfl ?_
  refine Wq.alen (v := 60) dX4_digest_184 rfl (by decide) rfl ?_
  refine Wq.icmpge (tgt := 220) dX4_digest_185 (by decide) (fun q1 => ?_) (fun q1 => ?_)
  · replace h := h.1 q1
    refine Wq.lload_n (x := x1) dX4_digest_220 rfl ?_
    exact Wq.lret dX4_digest_221 rfl h
  · replace h := h.2 q1
    refine Wq.iload_n (x := x3) dX4_digest_188 rfl ?_
    refine Wq.aload_n (t := 10) (r := 8) (j := 0) dX4_digest_189 rfl ?_
    refine Wq.getf (v := pO 12 8 0) dX4_digest_190 fl_X4_30 ⟨rfl, rfl, by decide⟩ rfl ?_
    refine Wq.getf (v := pI (m.1 8 12 0 1)) dX4_digest_193 fl_X4_146 ⟨rfl, rfl, by decide⟩ rfl ?_
    refine Wq.icmpge (tgt := 220) dX4_digest_196 (by decide) (fun q2 => ?_) (fun q2 => ?_)
    · replace h := h.1 q2
      refine Wq.lload_n (x := x1) dX4_digest_220 rfl ?_
      exact Wq.lret dX4_digest_221 rfl h
    · replace h := h.2 q2
      refine Wq.lload_n (x := x1) dX4_digest_199 rfl ?_
      refine Wq.aload_n (t := 10) (r := 8) (j := 0) dX4_digest_200 rfl ?_
      refine Wq.getf (v := pO 12 8 0) dX4_digest_201 fl_X4_30 ⟨rfl, rfl, by decide⟩ rfl ?_
      refine Wq.getf (v := pO 13 8 0) dX4_digest_204 fl_X4_247 ⟨rfl, rfl, by decide⟩ rfl ?_
      refine Wq.iload_n (x := x3) dX4_digest_207 rfl ?_
      refine Wq.iald dX4_digest_208 rfl h.1 ?_
      replace h := h.2
      refine Wq.i2l dX4_digest_209 ?_
      refine Wq.callSL (As := [pL x1, pL (Int32.toInt64 (m.1 8 13 0 (ix x3)))]) dX4_digest_210 fX4_hashWith ml_X4_225 rfl (Nat.le_of_ble_eq_true rfl) (Nat.le_of_ble_eq_true rfl) (suX4_hashWith trivial) (fun x3 m9 e9 => ?_)
      obtain ⟨rfl, rfl⟩ := e9
      refine Wq.lstore_n (ls2 := [some (pO 10 8 0), some (pL ((31 * x1) + (Int32.toInt64 (m.1 8 13 0 (ix x3))))), none, some (pI x3)]) dX4_digest_213 (by decide) rfl ?_
      refine Wq.iinc (x := x3) (ls2 := [some (pO 10 8 0), some (pL ((31 * x1) + (Int32.toInt64 (m.1 8 13 0 (ix x3))))), none, some (pI (x3 + 1))]) dX4_digest_214 rfl (by decide) rfl ?_
      refine Wq.goto (tgt := 176) dX4_digest_217 (by decide) ?_
      exact h
