/-! SEGMENTS: rows from a method's entry, and from each loop's head, to the next ones (laid by wip/whole/gen/gen.py) -/
set_option maxHeartbeats 4000000 in
set_option maxRecDepth 20000 in
theorem sgX5_save {g : GG} {d : Nat} {c n : Nat} {m : PM} {Q : Ou → PM → Nat → Nat → Prop}  (h : ((¬ (m.1 9 20 0 4) = 6 → Wq g d MX5_save c n 52 [some (pO 20 9 0), some (pI 0)] [] m Q) ∧ ((m.1 9 20 0 4) = 6 → Wq g d MX5_save c n 11 [some (pO 20 9 0), some (pI 0)] [] m Q))) : Wq g d MX5_save c n 0 [some (pO 20 9 0)] [] m Q := by
  refine Wq.few (ls' := [some (pO 20 9 0), none]) ⟨rfl, trivial⟩ ?_
  refine Wq.aload_n (t := 20) (r := 9) (j := 0) dX5_save_0 rfl ?_
  refine Wq.getf (v := pI (m.1 9 20 0 4)) dX5_save_1 fl_X5_49 ⟨rfl, rfl, by decide⟩ rfl ?_
  refine Wq.bipush (v := 6) dX5_save_4 (by decide) ?_
  refine Wq.icmpne (tgt := 50) dX5_save_6 (by decide) (fun q1 => ?_) (fun q1 => ?_)
  · replace h := h.1 q1
    refine Wq.iconst (v := 0) dX5_save_50 (by decide) ?_
    refine Wq.istore_n (ls2 := [some (pO 20 9 0), some (pI 0)]) dX5_save_51 (by decide) rfl ?_
    exact h
  · replace h := h.2 q1
    refine Wq.iconst (v := 0) dX5_save_9 (by decide) ?_
    refine Wq.istore_n (ls2 := [some (pO 20 9 0), some (pI 0)]) dX5_save_10 (by decide) rfl ?_
    exact h
set_option maxHeartbeats 4000000 in
set_option maxRecDepth 20000 in
theorem sgX5_save_11 {g : GG} {d : Nat} {c n : Nat} {m : PM} {Q : Ou → PM → Nat → Nat → Prop} {x1 : Int32} (h : ((1705 ≤ x1 → Wq g d MX5_save c n 52 [some (pO 20 9 0), some (pI 0)] [] (setI m 20 9 0 4 ((m.1 9 20 0 4) - 1)) Q) ∧ (¬ 1705 ≤ x1 → (vp_in (341 + x1) 2046 ∧ (vp_in x1 2046 ∧ Wq g d MX5_save c n 11 [some (pO 20 9 0), some (pI (x1 + 1))] [] (setI m 23 9 0 (ix x1) (m.1 9 23 0 (ix (341 + x1)))) Q))))) : Wq g d MX5_save c n 11 [some (pO 20 9 0), some (pI x1)] [] m Q := by
  refine Wq.iload_n (x := x1) dX5_save_11 rfl ?_
  refine Wq.sipush (v := 1705) dX5_save_12 (by decide) ?_
  refine Wq.icmpge (tgt := 40) dX5_save_15 (by decide) (fun q1 => ?_) (fun q1 => ?_)
  · replace h := h.1 q1
    refine Wq.aload_n (t := 20) (r := 9) (j := 0) dX5_save_40 rfl ?_
    refine Wq.dup dX5_save_41 rfl ?_
    refine Wq.getf (v := pI (m.1 9 20 0 4)) dX5_save_42 fl_X5_49 ⟨rfl, rfl, by decide⟩ rfl ?_
    refine Wq.iconst (v := 1) dX5_save_45 (by decide) ?_
    refine Wq.isub dX5_save_46 ?_
    refine Wq.putI dX5_save_47 fw_X5_49 ⟨rfl, rfl, by decide⟩ ⟨rfl, by decide, by decide⟩ ⟨rfl, rfl⟩ ?_
    refine Wq.iconst (v := 0) dX5_save_50 (by decide) ?_
    refine Wq.istore_n (ls2 := [some (pO 20 9 0), some (pI 0)]) dX5_save_51 (by decide) rfl ?_
    exact h
  · replace h := h.2 q1
    refine Wq.aload_n (t := 20) (r := 9) (j := 0) dX5_save_18 rfl ?_
    refine Wq.getf (v := pO 23 9 0) dX5_save_19 fl_X5_16 ⟨rfl, rfl, by decide⟩ rfl ?_
    refine Wq.iload_n (x := x1) dX5_save_22 rfl ?_
    refine Wq.aload_n (t := 20) (r := 9) (j := 0) dX5_save_23 rfl ?_
    refine Wq.getf (v := pO 23 9 0) dX5_save_24 fl_X5_16 ⟨rfl, rfl, by decide⟩ rfl ?_
    refine Wq.sipush (v := 341) dX5_save_27 (by decide) ?_
    refine Wq.iload_n (x := x1) dX5_save_30 rfl ?_
    refine Wq.iadd dX5_save_31 ?_
    refine Wq.iald dX5_save_32 rfl h.1 ?_
    replace h := h.2
    refine Wq.iast dX5_save_33 rfl h.1 ?_
    replace h := h.2
    refine Wq.iinc (x := x1) (ls2 := [some (pO 20 9 0), some (pI (x1 + 1))]) dX5_save_34 rfl (by decide) rfl ?_
    refine Wq.goto (tgt := 11) dX5_save_37 (by decide) ?_
    exact h
set_option maxHeartbeats 4000000 in
set_option maxRecDepth 20000 in
theorem sgX5_save_52 {g : GG} {d : Nat} {c n : Nat} {m : PM} {Q : Ou → PM → Nat → Nat → Prop} {x1 : Int32} (h : ((341 ≤ x1 → Q (.inl none) (setI m 20 9 0 4 ((m.1 9 20 0 4) + 1)) c n) ∧ (¬ 341 ≤ x1 → (vp_in x1 341 ∧ (vp_in ((341 * (m.1 9 20 0 4)) + x1) 2046 ∧ Wq g d MX5_save c n 52 [some (pO 20 9 0), some (pI (x1 + 1))] [] (setI m 23 9 0 (ix ((341 * (m.1 9 20 0 4)) + x1)) (m.1 9 21 0 (ix x1))) Q))))) : Wq g d MX5_save c n 52 [some (pO 20 9 0), some (pI x1)] [] m Q := by
  refine Wq.iload_n (x := x1) dX5_save_52 rfl ?_
  refine Wq.sipush (v := 341) dX5_save_53 (by decide) ?_
  refine Wq.icmpge (tgt := 86) dX5_save_56 (by decide) (fun q1 => ?_) (fun q1 => ?_)
  · replace h := h.1 q1
    refine Wq.aload_n (t := 20) (r := 9) (j := 0) dX5_save_86 rfl ?_
    refine Wq.dup dX5_save_87 rfl ?_
    refine Wq.getf (v := pI (m.1 9 20 0 4)) dX5_save_88 fl_X5_49 ⟨rfl, rfl, by decide⟩ rfl ?_
    refine Wq.iconst (v := 1) dX5_save_91 (by decide) ?_
    refine Wq.iadd dX5_save_92 ?_
    refine Wq.putI dX5_save_93 fw_X5_49 ⟨rfl, rfl, by decide⟩ ⟨rfl, by decide, by decide⟩ ⟨rfl, rfl⟩ ?_
    exact Wq.vret dX5_save_96 rfl h
  · replace h := h.2 q1
    refine Wq.aload_n (t := 20) (r := 9) (j := 0) dX5_save_59 rfl ?_
    refine Wq.getf (v := pO 23 9 0) dX5_save_60 fl_X5_16 ⟨rfl, rfl, by decide⟩ rfl ?_
    refine Wq.sipush (v := 341) dX5_save_63 (by decide) ?_
    refine Wq.aload_n (t := 20) (r := 9) (j := 0) dX5_save_66 rfl ?_
    refine Wq.getf (v := pI (m.1 9 20 0 4)) dX5_save_67 fl_X5_49 ⟨rfl, rfl, by decide⟩ rfl ?_
    refine Wq.imul dX5_save_70 ?_
    refine Wq.iload_n (x := x1) dX5_save_71 rfl ?_
    refine Wq.iadd dX5_save_72 ?_
    refine Wq.aload_n (t := 20) (r := 9) (j := 0) dX5_save_73 rfl ?_
    refine Wq.getf (v := pO 21 9 0) dX5_save_74 fl_X5_7 ⟨rfl, rfl, by decide⟩ rfl ?_
    refine Wq.iload_n (x := x1) dX5_save_77 rfl ?_
    refine Wq.iald dX5_save_78 rfl h.1 ?_
    replace h := h.2
    refine Wq.iast dX5_save_79 rfl h.1 ?_
    replace h := h.2
    refine Wq.iinc (x := x1) (ls2 := [some (pO 20 9 0), some (pI (x1 + 1))]) dX5_save_80 rfl (by decide) rfl ?_
    refine Wq.goto (tgt := 52) dX5_save_83 (by decide) ?_
    exact h
set_option maxHeartbeats 4000000 in
set_option maxRecDepth 20000 in
theorem sgX5_clearBuffer {g : GG} {d : Nat} {c n : Nat} {m : PM} {Q : Ou → PM → Nat → Nat → Prop}  (h : Q (.inl (some (pI ((setI m 20 9 0 0 0).1 9 20 0 6)))) (setI (setI m 20 9 0 0 0) 20 9 0 6 0) c n) : Wq g d MX5_clearBuffer c n 0 [some (pO 20 9 0)] [] m Q := by
  refine Wq.few (ls' := [some (pO 20 9 0), none]) ⟨rfl, trivial⟩ ?_
  refine Wq.aload_n (t := 20) (r := 9) (j := 0) dX5_clearBuffer_0 rfl ?_
  refine Wq.iconst (v := 0) dX5_clearBuffer_1 (by decide) ?_
  refine Wq.putI dX5_clearBuffer_2 fw_X5_41 ⟨rfl, rfl, by decide⟩ ⟨rfl, by decide, by decide⟩ ⟨rfl, rfl⟩ ?_
  refine Wq.aload_n (t := 20) (r := 9) (j := 0) dX5_clearBuffer_5 rfl ?_
  refine Wq.getf (v := pI ((setI m 20 9 0 0 0).1 9 20 0 6)) dX5_clearBuffer_6 fl_X5_147 ⟨rfl, rfl, by decide⟩ rfl ?_
  refine Wq.istore_n (ls2 := [some (pO 20 9 0), some (pI ((setI m 20 9 0 0 0).1 9 20 0 6))]) dX5_clearBuffer_9 (by decide) rfl ?_
  refine Wq.aload_n (t := 20) (r := 9) (j := 0) dX5_clearBuffer_10 rfl ?_
  refine Wq.iconst (v := 0) dX5_clearBuffer_11 (by decide) ?_
  refine Wq.putI dX5_clearBuffer_12 fw_X5_147 ⟨rfl, rfl, by decide⟩ ⟨rfl, by decide, by decide⟩ ⟨rfl, rfl⟩ ?_
  refine Wq.iload_n (x := ((setI m 20 9 0 0 0).1 9 20 0 6)) dX5_clearBuffer_15 rfl ?_
  exact Wq.iret dX5_clearBuffer_16 (⟨_, rfl, rfl⟩) h
set_option maxHeartbeats 4000000 in
set_option maxRecDepth 20000 in
theorem sgX5_slotsOf {g : GG} {d : Nat} {c n : Nat} {m : PM} {Q : Ou → PM → Nat → Nat → Prop} {x1 : Int32} {x2 : Int32} (h : Wq g d MX5_slotsOf c n 5 [some (pO 20 9 0), some (pI x1), some (pI x2), some (pI 0), some (pI 0)] [] m Q) : Wq g d MX5_slotsOf c n 0 [some (pO 20 9 0), some (pI x1), some (pI x2)] [] m Q := by
  refine Wq.few (ls' := [some (pO 20 9 0), some (pI x1), some (pI x2), none, none]) ⟨rfl, ⟨rfl, ⟨rfl, trivial⟩⟩⟩ ?_
  refine Wq.iconst (v := 0) dX5_slotsOf_0 (by decide) ?_
  refine Wq.istore_n (ls2 := [some (pO 20 9 0), some (pI x1), some (pI x2), some (pI 0), none]) dX5_slotsOf_1 (by decide) rfl ?_
  refine Wq.iconst (v := 0) dX5_slotsOf_2 (by decide) ?_
  refine Wq.istore (ls2 := [some (pO 20 9 0), some (pI x1), some (pI x2), some (pI 0), some (pI 0)]) dX5_slotsOf_3 (by decide) rfl ?_
  exact h
set_option maxHeartbeats 4000000 in
set_option maxRecDepth 20000 in
theorem sgX5_slotsOf_5 {g : GG} {d : Nat} {c n : Nat} {m : PM} {Q : Ou → PM → Nat → Nat → Prop} {x1 : Int32} {x2 : Int32} {x3 : Int32} {x4 : Int32} (h : ((40 ≤ x4 → Q (.inl (some (pI x3))) m c n) ∧ (¬ 40 ≤ x4 → (vp_in ((9 + (40 * x1)) + x4) 341 ∧ ((¬ (m.1 9 21 0 (ix ((9 + (40 * x1)) + x4))) = x2 → Wq g d MX5_slotsOf c n 5 [some (pO 20 9 0), some (pI x1), some (pI x2), some (pI (x3 + 0)), some (pI (x4 + 1))] [] m Q) ∧ ((m.1 9 21 0 (ix ((9 + (40 * x1)) + x4))) = x2 → Wq g d MX5_slotsOf c n 5 [some (pO 20 9 0), some (pI x1), some (pI x2), some (pI (x3 + 1)), some (pI (x4 + 1))] [] m Q)))))) : Wq g d MX5_slotsOf c n 5 [some (pO 20 9 0), some (pI x1), some (pI x2), some (pI x3), some (pI x4)] [] m Q := by
  refine Wq.iload (x := x4) dX5_slotsOf_5 rfl ?_
  refine Wq.bipush (v := 40) dX5_slotsOf_7 (by decide) ?_
  refine Wq.icmpge (tgt := 45) dX5_slotsOf_9 (by decide) (fun q1 => ?_) (fun q1 => ?_)
  · replace h := h.1 q1
    refine Wq.iload_n (x := x3) dX5_slotsOf_45 rfl ?_
    exact Wq.iret dX5_slotsOf_46 (⟨_, rfl, rfl⟩) h
  · replace h := h.2 q1
    refine Wq.iload_n (x := x3) dX5_slotsOf_12 rfl ?_
    refine Wq.aload_n (t := 20) (r := 9) (j := 0) dX5_slotsOf_13 rfl ?_
    refine Wq.getf (v := pO 21 9 0) dX5_slotsOf_14 fl_X5_7 ⟨rfl, rfl, by decide⟩ rfl ?_
    refine Wq.bipush (v := 9) dX5_slotsOf_17 (by decide) ?_
    refine Wq.bipush (v := 40) dX5_slotsOf_19 (by decide) ?_
    refine Wq.iload_n (x := x1) dX5_slotsOf_21 rfl ?_
    refine Wq.imul dX5_slotsOf_22 ?_
    refine Wq.iadd dX5_slotsOf_23 ?_
    refine Wq.iload (x := x4) dX5_slotsOf_24 rfl ?_
    refine Wq.iadd dX5_slotsOf_26 ?_
    refine Wq.iald dX5_slotsOf_27 rfl h.1 ?_
    replace h := h.2
    refine Wq.iload_n (x := x2) dX5_slotsOf_28 rfl ?_
    refine Wq.icmpne (tgt := 36) dX5_slotsOf_29 (by decide) (fun q2 => ?_) (fun q2 => ?_)
    · replace h := h.1 q2
      refine Wq.iconst (v := 0) dX5_slotsOf_36 (by decide) ?_
      refine Wq.iadd dX5_slotsOf_37 ?_
      refine Wq.istore_n (ls2 := [some (pO 20 9 0), some (pI x1), some (pI x2), some (pI (x3 + 0)), some (pI x4)]) dX5_slotsOf_38 (by decide) rfl ?_
      refine Wq.iinc (x := x4) (ls2 := [some (pO 20 9 0), some (pI x1), some (pI x2), some (pI (x3 + 0)), some (pI (x4 + 1))]) dX5_slotsOf_39 rfl (by decide) rfl ?_
      refine Wq.goto (tgt := 5) dX5_slotsOf_42 (by decide) ?_
      exact h
    · replace h := h.2 q2
      refine Wq.iconst (v := 1) dX5_slotsOf_32 (by decide) ?_
      refine Wq.goto (tgt := 37) dX5_slotsOf_33 (by decide) ?_
      refine Wq.iadd dX5_slotsOf_37 ?_
      refine Wq.istore_n (ls2 := [some (pO 20 9 0), some (pI x1), some (pI x2), some (pI (x3 + 1)), some (pI x4)]) dX5_slotsOf_38 (by decide) rfl ?_
      refine Wq.iinc (x := x4) (ls2 := [some (pO 20 9 0), some (pI x1), some (pI x2), some (pI (x3 + 1)), some (pI (x4 + 1))]) dX5_slotsOf_39 rfl (by decide) rfl ?_
      refine Wq.goto (tgt := 5) dX5_slotsOf_42 (by decide) ?_
      exact h
set_option maxHeartbeats 4000000 in
set_option maxRecDepth 20000 in
theorem sgX5_bitsOfShare {g : GG} {d : Nat} {c n : Nat} {m : PM} {Q : Ou → PM → Nat → Nat → Prop} {x0 : UInt64} (h : ((¬ (Op.cmpValue (FP.dcmp x0 FP.dconst0) CmpOp.l) = 0 → Wq g d MX5_bitsOfShare c n 15 [none, none, some (pL 1023), none, some (pD x0), none] [] m Q) ∧ ((Op.cmpValue (FP.dcmp x0 FP.dconst0) CmpOp.l) = 0 → Q (.inl (some (pL 0))) m c n))) : Wq g d MX5_bitsOfShare c n 0 [some (pD x0), none] [] m Q := by
  refine Wq.few (ls' := [some (pD x0), none, none, none, none, none]) ⟨rfl, trivial⟩ ?_
  refine Wq.dload_n (x := x0) dX5_bitsOfShare_0 rfl ?_
  refine Wq.dconst0 dX5_bitsOfShare_1 ?_
  refine Wq.dcmp dX5_bitsOfShare_2 ?_
  refine Wq.ifne (tgt := 8) dX5_bitsOfShare_3 (by decide) (fun q1 => ?_) (fun q1 => ?_)
  · replace h := h.1 q1
    refine Wq.ldc2 dX5_bitsOfShare_8 lc_X5_216 ?_
    refine Wq.lstore_n (ls2 := [some (pD x0), none, some (pL 1023), none, none, none]) dX5_bitsOfShare_11 (by decide) rfl ?_
    refine Wq.dload_n (x := x0) dX5_bitsOfShare_12 rfl ?_
    refine Wq.dstore (ls2 := [some (pD x0), none, some (pL 1023), none, some (pD x0), none]) dX5_bitsOfShare_13 (by decide) rfl ?_
    refine Wq.few (ls' := [none, none, some (pL 1023), none, some (pD x0), none]) ⟨rfl, ⟨rfl, trivial⟩⟩ ?_
    exact h
  · replace h := h.2 q1
    refine Wq.lconst (v := 0) dX5_bitsOfShare_6 (by decide) ?_
    exact Wq.lret dX5_bitsOfShare_7 rfl h
set_option maxHeartbeats 4000000 in
set_option maxRecDepth 20000 in
theorem sgX5_bitsOfShare_15 {g : GG} {d : Nat} {c n : Nat} {m : PM} {Q : Ou → PM → Nat → Nat → Prop} {x2 : Int64} {x4 : UInt64} (h : ((0 ≤ (Op.cmpValue (FP.dcmp x4 FP.dconst1) CmpOp.g) → (vf_n64 (FP.dsub x4 FP.dconst1) ∧ (vf_n64 (FP.dmul (FP.dsub x4 FP.dconst1) 4841369599423283200) ∧ Q (.inl (some (pL ((x2 * 4503599627370496) + (FP.d2l (FP.dmul (FP.dsub x4 FP.dconst1) 4841369599423283200)))))) m c n))) ∧ (¬ 0 ≤ (Op.cmpValue (FP.dcmp x4 FP.dconst1) CmpOp.g) → (vf_n64 (FP.dmul x4 4611686018427387904) ∧ Wq g d MX5_bitsOfShare c n 15 [none, none, some (pL (x2 - 1)), none, some (pD (FP.dmul x4 4611686018427387904)), none] [] m Q)))) : Wq g d MX5_bitsOfShare c n 15 [none, none, some (pL x2), none, some (pD x4), none] [] m Q := by
  refine Wq.dload (x := x4) dX5_bitsOfShare_15 rfl ?_
  refine Wq.dconst1 dX5_bitsOfShare_17 ?_
  refine Wq.dcmp dX5_bitsOfShare_18 ?_
  refine Wq.ifge (tgt := 37) dX5_bitsOfShare_19 (by decide) (fun q1 => ?_) (fun q1 => ?_)
  · replace h := h.1 q1
    refine Wq.lload_n (x := x2) dX5_bitsOfShare_37 rfl ?_
    refine Wq.ldc2 dX5_bitsOfShare_38 lc_X5_220 ?_
    refine Wq.lmul dX5_bitsOfShare_41 ?_
    refine Wq.dload (x := x4) dX5_bitsOfShare_42 rfl ?_
    refine Wq.dconst1 dX5_bitsOfShare_44 ?_
    refine Wq.dsub dX5_bitsOfShare_45 h.1 ?_
    replace h := h.2
    refine Wq.ldc2d dX5_bitsOfShare_46 lc_X5_222 ?_
    refine Wq.dmul dX5_bitsOfShare_49 h.1 ?_
    replace h := h.2
    refine Wq.d2l dX5_bitsOfShare_50 ?_
    refine Wq.ladd dX5_bitsOfShare_51 ?_
    exact Wq.lret dX5_bitsOfShare_52 rfl h
  · replace h := h.2 q1
    refine Wq.dload (x := x4) dX5_bitsOfShare_22 rfl ?_
    refine Wq.ldc2d dX5_bitsOfShare_24 lc_X5_218 ?_
    refine Wq.dmul dX5_bitsOfShare_27 h.1 ?_
    replace h := h.2
    refine Wq.dstore (ls2 := [none, none, some (pL x2), none, some (pD (FP.dmul x4 4611686018427387904)), none]) dX5_bitsOfShare_28 (by decide) rfl ?_
    refine Wq.lload_n (x := x2) dX5_bitsOfShare_30 rfl ?_
    refine Wq.lconst (v := 1) dX5_bitsOfShare_31 (by decide) ?_
    refine Wq.lsub dX5_bitsOfShare_32 ?_
    refine Wq.lstore_n (ls2 := [none, none, some (pL (x2 - 1)), none, some (pD (FP.dmul x4 4611686018427387904)), none]) dX5_bitsOfShare_33 (by decide) rfl ?_
    refine Wq.goto (tgt := 15) dX5_bitsOfShare_34 (by decide) ?_
    exact h
set_option maxHeartbeats 4000000 in
set_option maxRecDepth 20000 in
theorem sgX5_addPupil {g : GG} {d : Nat} {c n : Nat} {m : PM} {Q : Ou → PM → Nat → Nat → Prop}  (h : ((¬ (m.1 9 21 0 (ix 2)) = 12 → Wp g d MX5_save 0 [some (pO 20 9 0)] [] (setI m 20 9 0 0 0) (cV fun m3 => Wq g (d + 1) MX5_addPupil c n 38 [some (pO 20 9 0), some (pI (m3.1 9 21 0 (ix 2))), some (pI 0)] [] m3 Q)) ∧ ((m.1 9 21 0 (ix 2)) = 12 → Q (.inl (some (pI 0))) (setI m 20 9 0 0 1) c n))) : Wq g (d + 1) MX5_addPupil c n 0 [some (pO 20 9 0)] [] m Q := by
  refine Wq.few (ls' := [some (pO 20 9 0), none, none]) ⟨rfl, trivial⟩ ?_
  refine Wq.aload_n (t := 20) (r := 9) (j := 0) dX5_addPupil_0 rfl ?_
  refine Wq.aload_n (t := 20) (r := 9) (j := 0) dX5_addPupil_1 rfl ?_
  refine Wq.getf (v := pO 21 9 0) dX5_addPupil_2 fl_X5_7 ⟨rfl, rfl, by decide⟩ rfl ?_
  refine Wq.iconst (v := 2) dX5_addPupil_5 (by decide) ?_
  refine Wq.iald dX5_addPupil_6 rfl (vp_dec rfl) ?_
  refine Wq.bipush (v := 12) dX5_addPupil_7 (by decide) ?_
  refine Wq.icmpne (tgt := 16) dX5_addPupil_9 (by decide) (fun q1 => ?_) (fun q1 => ?_)
  · replace h := h.1 q1
    refine Wq.iconst (v := 0) dX5_addPupil_16 (by decide) ?_
    refine Wq.callVI (As := [pI 0]) dX5_addPupil_17 fX5_holds ml_X5_86 rfl (by decide) rfl (Nat.le_of_ble_eq_true rfl) (Nat.le_of_ble_eq_true rfl) ?_ (fun _ _ h9 => h9)
    refine Wq.few (ls' := [some (pO 20 9 0), some (pI 0)]) ⟨rfl, ⟨rfl, trivial⟩⟩ ?_
    refine Wq.aload_n (t := 20) (r := 9) (j := 0) dX5_holds_0 rfl ?_
    refine Wq.iload_n (x := 0) dX5_holds_1 rfl ?_
    refine Wq.putI dX5_holds_2 fw_X5_41 ⟨rfl, rfl, by decide⟩ ⟨rfl, by decide, by decide⟩ ⟨rfl, rfl⟩ ?_
    refine Wq.iload_n (x := 0) dX5_holds_5 rfl ?_
    refine Wq.ifne (tgt := 13) dX5_holds_6 (by decide) (fun q9 => absurd q9 (by decide)) (fun _ => ?_)
    refine Wq.iconst (v := 1) dX5_holds_9 (by decide) ?_
    refine Wq.goto (tgt := 14) dX5_holds_10 (by decide) ?_
    refine Wq.iretI dX5_holds_14 (⟨_, rfl, by decide⟩) ?_
    refine Wq.ifne (tgt := 25) dX5_addPupil_20 (by decide) (fun _ => ?_) (fun q9 => absurd q9 (by decide))
    refine Wq.aload_n (t := 20) (r := 9) (j := 0) dX5_addPupil_25 rfl ?_
    refine Wq.callVV (As := []) dX5_addPupil_26 fX5_save ml_X5_90 rfl (by decide) rfl (Nat.le_of_ble_eq_true rfl) (Nat.le_of_ble_eq_true rfl) h (fun m3 h => ?_)
    refine Wq.aload_n (t := 20) (r := 9) (j := 0) dX5_addPupil_29 rfl ?_
    refine Wq.getf (v := pO 21 9 0) dX5_addPupil_30 fl_X5_7 ⟨rfl, rfl, by decide⟩ rfl ?_
    refine Wq.iconst (v := 2) dX5_addPupil_33 (by decide) ?_
    refine Wq.iald dX5_addPupil_34 rfl (vp_dec rfl) ?_
    refine Wq.istore_n (ls2 := [some (pO 20 9 0), some (pI (m3.1 9 21 0 (ix 2))), none]) dX5_addPupil_35 (by decide) rfl ?_
    refine Wq.iconst (v := 0) dX5_addPupil_36 (by decide) ?_
    refine Wq.istore_n (ls2 := [some (pO 20 9 0), some (pI (m3.1 9 21 0 (ix 2))), some (pI 0)]) dX5_addPupil_37 (by decide) rfl ?_
    exact h
  · replace h := h.2 q1
    refine Wq.iconst (v := 1) dX5_addPupil_12 (by decide) ?_
    refine Wq.goto (tgt := 17) dX5_addPupil_13 (by decide) ?_
    refine Wq.callVI (As := [pI 1]) dX5_addPupil_17 fX5_holds ml_X5_86 rfl (by decide) rfl (Nat.le_of_ble_eq_true rfl) (Nat.le_of_ble_eq_true rfl) ?_ (fun _ _ h9 => h9)
    refine Wq.few (ls' := [some (pO 20 9 0), some (pI 1)]) ⟨rfl, ⟨rfl, trivial⟩⟩ ?_
    refine Wq.aload_n (t := 20) (r := 9) (j := 0) dX5_holds_0 rfl ?_
    refine Wq.iload_n (x := 1) dX5_holds_1 rfl ?_
    refine Wq.putI dX5_holds_2 fw_X5_41 ⟨rfl, rfl, by decide⟩ ⟨rfl, by decide, by decide⟩ ⟨rfl, rfl⟩ ?_
    refine Wq.iload_n (x := 1) dX5_holds_5 rfl ?_
    refine Wq.ifne (tgt := 13) dX5_holds_6 (by decide) (fun _ => ?_) (fun q9 => absurd q9 (by decide))
    refine Wq.iconst (v := 0) dX5_holds_13 (by decide) ?_
    refine Wq.iretI dX5_holds_14 (⟨_, rfl, by decide⟩) ?_
    refine Wq.ifne (tgt := 25) dX5_addPupil_20 (by decide) (fun q9 => absurd q9 (by decide)) (fun _ => ?_)
    refine Wq.iconst (v := 0) dX5_addPupil_23 (by decide) ?_
    exact Wq.iret dX5_addPupil_24 (⟨_, rfl, rfl⟩) h
set_option maxHeartbeats 4000000 in
set_option maxRecDepth 20000 in
theorem sgX5_addPupil_38 {g : GG} {d : Nat} {c n : Nat} {m : PM} {Q : Ou → PM → Nat → Nat → Prop} {x1 : Int32} {x2 : Int32} (h : ((12 ≤ x2 → (vp_in ((197 + (12 * x1)) + (2 : Int32)) 341 ∧ (vp_in ((197 + (12 * x1)) + (3 : Int32)) 341 ∧ (vp_in ((197 + (12 * x1)) + (4 : Int32)) 341 ∧ Q (.inl (some (pI x1))) (setI (setI (setI (setI m 21 9 0 (ix ((197 + (12 * x1)) + (2 : Int32))) (m.1 9 21 0 (ix 0))) 21 9 0 (ix ((197 + (12 * x1)) + (3 : Int32))) (-1)) 21 9 0 (ix ((197 + (12 * x1)) + (4 : Int32))) (-1)) 21 9 0 (ix 2) (((setI (setI (setI m 21 9 0 (ix ((197 + (12 * x1)) + (2 : Int32))) (m.1 9 21 0 (ix 0))) 21 9 0 (ix ((197 + (12 * x1)) + (3 : Int32))) (-1)) 21 9 0 (ix ((197 + (12 * x1)) + (4 : Int32))) (-1)).1 9 21 0 (ix 2)) + 1)) c n)))) ∧ (¬ 12 ≤ x2 → (vp_in ((197 + (12 * x1)) + x2) 341 ∧ Wq g (d + 1) MX5_addPupil c n 38 [some (pO 20 9 0), some (pI x1), some (pI (x2 + 1))] [] (setI m 21 9 0 (ix ((197 + (12 * x1)) + x2)) 0) Q)))) : Wq g (d + 1) MX5_addPupil c n 38 [some (pO 20 9 0), some (pI x1), some (pI x2)] [] m Q := by
  refine Wq.iload_n (x := x2) dX5_addPupil_38 rfl ?_
  refine Wq.bipush (v := 12) dX5_addPupil_39 (by decide) ?_
  refine Wq.icmpge (tgt := 61) dX5_addPupil_41 (by decide) (fun q1 => ?_) (fun q1 => ?_)
  · replace h := h.1 q1
    refine Wq.aload_n (t := 20) (r := 9) (j := 0) dX5_addPupil_61 rfl ?_
    refine Wq.getf (v := pO 21 9 0) dX5_addPupil_62 fl_X5_7 ⟨rfl, rfl, by decide⟩ rfl ?_
    refine Wq.iload_n (x := x1) dX5_addPupil_65 rfl ?_
    refine Wq.iconst (v := 2) dX5_addPupil_66 (by decide) ?_
    refine Wq.callSI (As := [pI x1, pI 2]) dX5_addPupil_67 fX5_of ml_X5_69 rfl (Nat.le_of_ble_eq_true rfl) (Nat.le_of_ble_eq_true rfl) (suX5_of trivial) (fun x4 m9 e9 => ?_)
    obtain ⟨rfl, rfl⟩ := e9
    refine Wq.aload_n (t := 20) (r := 9) (j := 0) dX5_addPupil_70 rfl ?_
    refine Wq.getf (v := pO 21 9 0) dX5_addPupil_71 fl_X5_7 ⟨rfl, rfl, by decide⟩ rfl ?_
    refine Wq.iconst (v := 0) dX5_addPupil_74 (by decide) ?_
    refine Wq.iald dX5_addPupil_75 rfl (vp_dec rfl) ?_
    refine Wq.iast dX5_addPupil_76 rfl h.1 ?_
    replace h := h.2
    refine Wq.aload_n (t := 20) (r := 9) (j := 0) dX5_addPupil_77 rfl ?_
    refine Wq.getf (v := pO 21 9 0) dX5_addPupil_78 fl_X5_7 ⟨rfl, rfl, by decide⟩ rfl ?_
    refine Wq.iload_n (x := x1) dX5_addPupil_81 rfl ?_
    refine Wq.iconst (v := 3) dX5_addPupil_82 (by decide) ?_
    refine Wq.callSI (As := [pI x1, pI 3]) dX5_addPupil_83 fX5_of ml_X5_69 rfl (Nat.le_of_ble_eq_true rfl) (Nat.le_of_ble_eq_true rfl) (suX5_of trivial) (fun x3 m9 e9 => ?_)
    obtain ⟨rfl, rfl⟩ := e9
    refine Wq.iconst (v := (-1)) dX5_addPupil_86 (by decide) ?_
    refine Wq.iast dX5_addPupil_87 rfl h.1 ?_
    replace h := h.2
    refine Wq.aload_n (t := 20) (r := 9) (j := 0) dX5_addPupil_88 rfl ?_
    refine Wq.getf (v := pO 21 9 0) dX5_addPupil_89 fl_X5_7 ⟨rfl, rfl, by decide⟩ rfl ?_
    refine Wq.iload_n (x := x1) dX5_addPupil_92 rfl ?_
    refine Wq.iconst (v := 4) dX5_addPupil_93 (by decide) ?_
    refine Wq.callSI (As := [pI x1, pI 4]) dX5_addPupil_94 fX5_of ml_X5_69 rfl (Nat.le_of_ble_eq_true rfl) (Nat.le_of_ble_eq_true rfl) (suX5_of trivial) (fun x2 m9 e9 => ?_)
    obtain ⟨rfl, rfl⟩ := e9
    refine Wq.iconst (v := (-1)) dX5_addPupil_97 (by decide) ?_
    refine Wq.iast dX5_addPupil_98 rfl h.1 ?_
    replace h := h.2
    refine Wq.aload_n (t := 20) (r := 9) (j := 0) dX5_addPupil_99 rfl ?_
    refine Wq.getf (v := pO 21 9 0) dX5_addPupil_100 fl_X5_7 ⟨rfl, rfl, by decide⟩ rfl ?_
    refine Wq.iconst (v := 2) dX5_addPupil_103 (by decide) ?_
    refine Wq.dup2 dX5_addPupil_104 rfl rfl ?_
    refine Wq.iald dX5_addPupil_105 rfl (vp_dec rfl) ?_
    refine Wq.iconst (v := 1) dX5_addPupil_106 (by decide) ?_
    refine Wq.iadd dX5_addPupil_107 ?_
    refine Wq.iast dX5_addPupil_108 rfl (vp_dec rfl) ?_
    refine Wq.iload_n (x := x1) dX5_addPupil_109 rfl ?_
    exact Wq.iret dX5_addPupil_110 (⟨_, rfl, rfl⟩) h
  · replace h := h.2 q1
    refine Wq.aload_n (t := 20) (r := 9) (j := 0) dX5_addPupil_44 rfl ?_
    refine Wq.getf (v := pO 21 9 0) dX5_addPupil_45 fl_X5_7 ⟨rfl, rfl, by decide⟩ rfl ?_
    refine Wq.iload_n (x := x1) dX5_addPupil_48 rfl ?_
    refine Wq.iload_n (x := x2) dX5_addPupil_49 rfl ?_
    refine Wq.callSI (As := [pI x1, pI x2]) dX5_addPupil_50 fX5_of ml_X5_69 rfl (Nat.le_of_ble_eq_true rfl) (Nat.le_of_ble_eq_true rfl) (suX5_of trivial) (fun x5 m9 e9 => ?_)
    obtain ⟨rfl, rfl⟩ := e9
    refine Wq.iconst (v := 0) dX5_addPupil_53 (by decide) ?_
    refine Wq.iast dX5_addPupil_54 rfl h.1 ?_
    replace h := h.2
    refine Wq.iinc (x := x2) (ls2 := [some (pO 20 9 0), some (pI x1), some (pI (x2 + 1))]) dX5_addPupil_55 rfl (by decide) rfl ?_
    refine Wq.goto (tgt := 38) dX5_addPupil_58 (by decide) ?_
    exact h
set_option maxHeartbeats 4000000 in
set_option maxRecDepth 20000 in
theorem sgX5_routeFor {g : GG} {d : Nat} {c n : Nat} {m : PM} {Q : Ou → PM → Nat → Nat → Prop} {x1 : Int32} {x2 : Int32} (h : Wq g (d + 1) MX5_routeFor c n 5 [some (pO 20 9 0), some (pI x1), some (pI x2), some (pI (-1)), some (pI 0), none, none] [] m Q) : Wq g (d + 1) MX5_routeFor c n 0 [some (pO 20 9 0), some (pI x1), some (pI x2)] [] m Q := by
  refine Wq.few (ls' := [some (pO 20 9 0), some (pI x1), some (pI x2), none, none, none, none]) ⟨rfl, ⟨rfl, ⟨rfl, trivial⟩⟩⟩ ?_
  refine Wq.iconst (v := (-1)) dX5_routeFor_0 (by decide) ?_
  refine Wq.istore_n (ls2 := [some (pO 20 9 0), some (pI x1), some (pI x2), some (pI (-1)), none, none, none]) dX5_routeFor_1 (by decide) rfl ?_
  refine Wq.iconst (v := 0) dX5_routeFor_2 (by decide) ?_
  refine Wq.istore (ls2 := [some (pO 20 9 0), some (pI x1), some (pI x2), some (pI (-1)), some (pI 0), none, none]) dX5_routeFor_3 (by decide) rfl ?_
  exact h
set_option maxHeartbeats 4000000 in
set_option maxRecDepth 20000 in
theorem sgX5_routeFor_5 {g : GG} {d : Nat} {c n : Nat} {m : PM} {Q : Ou → PM → Nat → Nat → Prop} {x1 : Int32} {x2 : Int32} {x3 : Int32} {x4 : Int32} (h : ((4 ≤ x4 → Q (.inl (some (pI x3))) m c n) ∧ (¬ 4 ≤ x4 → (vp_in ((169 + (7 * x2)) + (3 + x4)) 341 ∧ ((x3 = (-1) → (vp_in ((197 + (12 * x1)) + (3 : Int32)) 341 ∧ ((x4 = (m.1 9 21 0 (ix ((197 + (12 * x1)) + (3 : Int32)))) → Wq g (d + 1) MX5_routeFor c n 5 [some (pO 20 9 0), some (pI x1), some (pI x2), some (pI x3), some (pI (x4 + 1)), none, none] [] m Q) ∧ (¬ x4 = (m.1 9 21 0 (ix ((197 + (12 * x1)) + (3 : Int32)))) → Wq g (d + 1) MX5_routeFor c n 5 [some (pO 20 9 0), some (pI x1), some (pI x2), some (pI x4), some (pI (x4 + 1)), none, none] [] m Q)))) ∧ (¬ x3 = (-1) → (vp_in ((169 + (7 * x2)) + (3 + x3)) 341 ∧ (((m.1 9 21 0 (ix ((169 + (7 * x2)) + (3 + x3)))) ≤ (m.1 9 21 0 (ix ((169 + (7 * x2)) + (3 + x4)))) → (vp_in ((197 + (12 * x1)) + (3 : Int32)) 341 ∧ ((x4 = (m.1 9 21 0 (ix ((197 + (12 * x1)) + (3 : Int32)))) → Wq g (d + 1) MX5_routeFor c n 5 [some (pO 20 9 0), some (pI x1), some (pI x2), some (pI x3), some (pI (x4 + 1)), none, none] [] m Q) ∧ (¬ x4 = (m.1 9 21 0 (ix ((197 + (12 * x1)) + (3 : Int32)))) → Wq g (d + 1) MX5_routeFor c n 5 [some (pO 20 9 0), some (pI x1), some (pI x2), some (pI x3), some (pI (x4 + 1)), none, none] [] m Q)))) ∧ (¬ (m.1 9 21 0 (ix ((169 + (7 * x2)) + (3 + x3)))) ≤ (m.1 9 21 0 (ix ((169 + (7 * x2)) + (3 + x4)))) → (vp_in ((197 + (12 * x1)) + (3 : Int32)) 341 ∧ ((x4 = (m.1 9 21 0 (ix ((197 + (12 * x1)) + (3 : Int32)))) → Wq g (d + 1) MX5_routeFor c n 5 [some (pO 20 9 0), some (pI x1), some (pI x2), some (pI x3), some (pI (x4 + 1)), none, none] [] m Q) ∧ (¬ x4 = (m.1 9 21 0 (ix ((197 + (12 * x1)) + (3 : Int32)))) → Wq g (d + 1) MX5_routeFor c n 5 [some (pO 20 9 0), some (pI x1), some (pI x2), some (pI x4), some (pI (x4 + 1)), none, none] [] m Q)))))))))))) : Wq g (d + 1) MX5_routeFor c n 5 [some (pO 20 9 0), some (pI x1), some (pI x2), some (pI x3), some (pI x4), none, none] [] m Q := by
  refine Wq.iload (x := x4) dX5_routeFor_5 rfl ?_
  refine Wq.iconst (v := 4) dX5_routeFor_7 (by decide) ?_
  refine Wq.icmpge (tgt := 88) dX5_routeFor_8 (by decide) (fun q1 => ?_) (fun q1 => ?_)
  · replace h := h.1 q1
    refine Wq.iload_n (x := x3) dX5_routeFor_88 rfl ?_
    exact Wq.iret dX5_routeFor_89 (⟨_, rfl, rfl⟩) h
  · replace h := h.2 q1
    refine Wq.aload_n (t := 20) (r := 9) (j := 0) dX5_routeFor_11 rfl ?_
    refine Wq.getf (v := pO 21 9 0) dX5_routeFor_12 fl_X5_7 ⟨rfl, rfl, by decide⟩ rfl ?_
    refine Wq.iload_n (x := x2) dX5_routeFor_15 rfl ?_
    refine Wq.iconst (v := 3) dX5_routeFor_16 (by decide) ?_
    refine Wq.iload (x := x4) dX5_routeFor_17 rfl ?_
    refine Wq.iadd dX5_routeFor_19 ?_
    refine Wq.callSI (As := [pI x2, pI (3 + x4)]) dX5_routeFor_20 fX5_ofExaminer ml_X5_93 rfl (Nat.le_of_ble_eq_true rfl) (Nat.le_of_ble_eq_true rfl) (suX5_ofExaminer trivial) (fun x11 m9 e9 => ?_)
    obtain ⟨rfl, rfl⟩ := e9
    refine Wq.iald dX5_routeFor_23 rfl h.1 ?_
    replace h := h.2
    refine Wq.istore (ls2 := [some (pO 20 9 0), some (pI x1), some (pI x2), some (pI x3), some (pI x4), some (pI (m.1 9 21 0 (ix ((169 + (7 * x2)) + (3 + x4))))), none]) dX5_routeFor_24 (by decide) rfl ?_
    refine Wq.iload_n (x := x3) dX5_routeFor_26 rfl ?_
    refine Wq.iconst (v := (-1)) dX5_routeFor_27 (by decide) ?_
    refine Wq.icmpeq (tgt := 48) dX5_routeFor_28 (by decide) (fun q2 => ?_) (fun q2 => ?_)
    · replace h := h.1 q2
      refine Wq.iconst (v := 1) dX5_routeFor_48 (by decide) ?_
      refine Wq.goto (tgt := 53) dX5_routeFor_49 (by decide) ?_
      refine Wq.istore (ls2 := [some (pO 20 9 0), some (pI x1), some (pI x2), some (pI x3), some (pI x4), some (pI (m.1 9 21 0 (ix ((169 + (7 * x2)) + (3 + x4))))), some (pI 1)]) dX5_routeFor_53 (by decide) rfl ?_
      refine Wq.iload (x := x4) dX5_routeFor_55 rfl ?_
      refine Wq.aload_n (t := 20) (r := 9) (j := 0) dX5_routeFor_57 rfl ?_
      refine Wq.getf (v := pO 21 9 0) dX5_routeFor_58 fl_X5_7 ⟨rfl, rfl, by decide⟩ rfl ?_
      refine Wq.iload_n (x := x1) dX5_routeFor_61 rfl ?_
      refine Wq.iconst (v := 3) dX5_routeFor_62 (by decide) ?_
      refine Wq.callSI (As := [pI x1, pI 3]) dX5_routeFor_63 fX5_of ml_X5_69 rfl (Nat.le_of_ble_eq_true rfl) (Nat.le_of_ble_eq_true rfl) (suX5_of trivial) (fun x4 m9 e9 => ?_)
      obtain ⟨rfl, rfl⟩ := e9
      refine Wq.iald dX5_routeFor_66 rfl h.1 ?_
      replace h := h.2
      refine Wq.icmpeq (tgt := 80) dX5_routeFor_67 (by decide) (fun q3 => ?_) (fun q3 => ?_)
      · replace h := h.1 q3
        refine Wq.iload_n (x := x3) dX5_routeFor_80 rfl ?_
        refine Wq.istore_n (ls2 := [some (pO 20 9 0), some (pI x1), some (pI x2), some (pI x3), some (pI x4), some (pI (m.1 9 21 0 (ix ((169 + (7 * x2)) + (3 + x4))))), some (pI 1)]) dX5_routeFor_81 (by decide) rfl ?_
        refine Wq.iinc (x := x4) (ls2 := [some (pO 20 9 0), some (pI x1), some (pI x2), some (pI x3), some (pI (x4 + 1)), some (pI (m.1 9 21 0 (ix ((169 + (7 * x2)) + (3 + x4))))), some (pI 1)]) dX5_routeFor_82 rfl (by decide) rfl ?_
        refine Wq.goto (tgt := 5) dX5_routeFor_85 (by decide) ?_
        refine Wq.few (ls' := [some (pO 20 9 0), some (pI x1), some (pI x2), some (pI x3), some (pI (x4 + 1)), none, none]) ⟨rfl, ⟨rfl, ⟨rfl, ⟨rfl, ⟨rfl, trivial⟩⟩⟩⟩⟩ ?_
        exact h
      · replace h := h.2 q3
        refine Wq.iload (x := 1) dX5_routeFor_70 rfl ?_
        refine Wq.ifeq (tgt := 80) dX5_routeFor_72 (by decide) (fun q9 => absurd q9 (by decide)) (fun _ => ?_)
        refine Wq.iload (x := x4) dX5_routeFor_75 rfl ?_
        refine Wq.goto (tgt := 81) dX5_routeFor_77 (by decide) ?_
        refine Wq.istore_n (ls2 := [some (pO 20 9 0), some (pI x1), some (pI x2), some (pI x4), some (pI x4), some (pI (m.1 9 21 0 (ix ((169 + (7 * x2)) + (3 + x4))))), some (pI 1)]) dX5_routeFor_81 (by decide) rfl ?_
        refine Wq.iinc (x := x4) (ls2 := [some (pO 20 9 0), some (pI x1), some (pI x2), some (pI x4), some (pI (x4 + 1)), some (pI (m.1 9 21 0 (ix ((169 + (7 * x2)) + (3 + x4))))), some (pI 1)]) dX5_routeFor_82 rfl (by decide) rfl ?_
        refine Wq.goto (tgt := 5) dX5_routeFor_85 (by decide) ?_
        refine Wq.few (ls' := [some (pO 20 9 0), some (pI x1), some (pI x2), some (pI x4), some (pI (x4 + 1)), none, none]) ⟨rfl, ⟨rfl, ⟨rfl, ⟨rfl, ⟨rfl, trivial⟩⟩⟩⟩⟩ ?_
        exact h
    · replace h := h.2 q2
      refine Wq.iload (x := (m.1 9 21 0 (ix ((169 + (7 * x2)) + (3 + x4))))) dX5_routeFor_31 rfl ?_
      refine Wq.aload_n (t := 20) (r := 9) (j := 0) dX5_routeFor_33 rfl ?_
      refine Wq.getf (v := pO 21 9 0) dX5_routeFor_34 fl_X5_7 ⟨rfl, rfl, by decide⟩ rfl ?_
      refine Wq.iload_n (x := x2) dX5_routeFor_37 rfl ?_
      refine Wq.iconst (v := 3) dX5_routeFor_38 (by decide) ?_
      refine Wq.iload_n (x := x3) dX5_routeFor_39 rfl ?_
      refine Wq.iadd dX5_routeFor_40 ?_
      refine Wq.callSI (As := [pI x2, pI (3 + x3)]) dX5_routeFor_41 fX5_ofExaminer ml_X5_93 rfl (Nat.le_of_ble_eq_true rfl) (Nat.le_of_ble_eq_true rfl) (suX5_ofExaminer trivial) (fun x10 m9 e9 => ?_)
      obtain ⟨rfl, rfl⟩ := e9
      refine Wq.iald dX5_routeFor_44 rfl h.1 ?_
      replace h := h.2
      refine Wq.icmpge (tgt := 52) dX5_routeFor_45 (by decide) (fun q5 => ?_) (fun q5 => ?_)
      · replace h := h.1 q5
        refine Wq.iconst (v := 0) dX5_routeFor_52 (by decide) ?_
        refine Wq.istore (ls2 := [some (pO 20 9 0), some (pI x1), some (pI x2), some (pI x3), some (pI x4), some (pI (m.1 9 21 0 (ix ((169 + (7 * x2)) + (3 + x4))))), some (pI 0)]) dX5_routeFor_53 (by decide) rfl ?_
        refine Wq.iload (x := x4) dX5_routeFor_55 rfl ?_
        refine Wq.aload_n (t := 20) (r := 9) (j := 0) dX5_routeFor_57 rfl ?_
        refine Wq.getf (v := pO 21 9 0) dX5_routeFor_58 fl_X5_7 ⟨rfl, rfl, by decide⟩ rfl ?_
        refine Wq.iload_n (x := x1) dX5_routeFor_61 rfl ?_
        refine Wq.iconst (v := 3) dX5_routeFor_62 (by decide) ?_
        refine Wq.callSI (As := [pI x1, pI 3]) dX5_routeFor_63 fX5_of ml_X5_69 rfl (Nat.le_of_ble_eq_true rfl) (Nat.le_of_ble_eq_true rfl) (suX5_of trivial) (fun x7 m9 e9 => ?_)
        obtain ⟨rfl, rfl⟩ := e9
        refine Wq.iald dX5_routeFor_66 rfl h.1 ?_
        replace h := h.2
        refine Wq.icmpeq (tgt := 80) dX5_routeFor_67 (by decide) (fun q6 => ?_) (fun q6 => ?_)
        · replace h := h.1 q6
          refine Wq.iload_n (x := x3) dX5_routeFor_80 rfl ?_
          refine Wq.istore_n (ls2 := [some (pO 20 9 0), some (pI x1), some (pI x2), some (pI x3), some (pI x4), some (pI (m.1 9 21 0 (ix ((169 + (7 * x2)) + (3 + x4))))), some (pI 0)]) dX5_routeFor_81 (by decide) rfl ?_
          refine Wq.iinc (x := x4) (ls2 := [some (pO 20 9 0), some (pI x1), some (pI x2), some (pI x3), some (pI (x4 + 1)), some (pI (m.1 9 21 0 (ix ((169 + (7 * x2)) + (3 + x4))))), some (pI 0)]) dX5_routeFor_82 rfl (by decide) rfl ?_
          refine Wq.goto (tgt := 5) dX5_routeFor_85 (by decide) ?_
          refine Wq.few (ls' := [some (pO 20 9 0), some (pI x1), some (pI x2), some (pI x3), some (pI (x4 + 1)), none, none]) ⟨rfl, ⟨rfl, ⟨rfl, ⟨rfl, ⟨rfl, trivial⟩⟩⟩⟩⟩ ?_
          exact h
        · replace h := h.2 q6
          refine Wq.iload (x := 0) dX5_routeFor_70 rfl ?_
          refine Wq.ifeq (tgt := 80) dX5_routeFor_72 (by decide) (fun _ => ?_) (fun q9 => absurd q9 (by decide))
          refine Wq.iload_n (x := x3) dX5_routeFor_80 rfl ?_
          refine Wq.istore_n (ls2 := [some (pO 20 9 0), some (pI x1), some (pI x2), some (pI x3), some (pI x4), some (pI (m.1 9 21 0 (ix ((169 + (7 * x2)) + (3 + x4))))), some (pI 0)]) dX5_routeFor_81 (by decide) rfl ?_
          refine Wq.iinc (x := x4) (ls2 := [some (pO 20 9 0), some (pI x1), some (pI x2), some (pI x3), some (pI (x4 + 1)), some (pI (m.1 9 21 0 (ix ((169 + (7 * x2)) + (3 + x4))))), some (pI 0)]) dX5_routeFor_82 rfl (by decide) rfl ?_
          refine Wq.goto (tgt := 5) dX5_routeFor_85 (by decide) ?_
          refine Wq.few (ls' := [some (pO 20 9 0), some (pI x1), some (pI x2), some (pI x3), some (pI (x4 + 1)), none, none]) ⟨rfl, ⟨rfl, ⟨rfl, ⟨rfl, ⟨rfl, trivial⟩⟩⟩⟩⟩ ?_
          exact h
      · replace h := h.2 q5
        refine Wq.iconst (v := 1) dX5_routeFor_48 (by decide) ?_
        refine Wq.goto (tgt := 53) dX5_routeFor_49 (by decide) ?_
        refine Wq.istore (ls2 := [some (pO 20 9 0), some (pI x1), some (pI x2), some (pI x3), some (pI x4), some (pI (m.1 9 21 0 (ix ((169 + (7 * x2)) + (3 + x4))))), some (pI 1)]) dX5_routeFor_53 (by decide) rfl ?_
        refine Wq.iload (x := x4) dX5_routeFor_55 rfl ?_
        refine Wq.aload_n (t := 20) (r := 9) (j := 0) dX5_routeFor_57 rfl ?_
        refine Wq.getf (v := pO 21 9 0) dX5_routeFor_58 fl_X5_7 ⟨rfl, rfl, by decide⟩ rfl ?_
        refine Wq.iload_n (x := x1) dX5_routeFor_61 rfl ?_
        refine Wq.iconst (v := 3) dX5_routeFor_62 (by decide) ?_
        refine Wq.callSI (As := [pI x1, pI 3]) dX5_routeFor_63 fX5_of ml_X5_69 rfl (Nat.le_of_ble_eq_true rfl) (Nat.le_of_ble_eq_true rfl) (suX5_of trivial) (fun x9 m9 e9 => ?_)
        obtain ⟨rfl, rfl⟩ := e9
        refine Wq.iald dX5_routeFor_66 rfl h.1 ?_
        replace h := h.2
        refine Wq.icmpeq (tgt := 80) dX5_routeFor_67 (by decide) (fun q8 => ?_) (fun q8 => ?_)
        · replace h := h.1 q8
          refine Wq.iload_n (x := x3) dX5_routeFor_80 rfl ?_
          refine Wq.istore_n (ls2 := [some (pO 20 9 0), some (pI x1), some (pI x2), some (pI x3), some (pI x4), some (pI (m.1 9 21 0 (ix ((169 + (7 * x2)) + (3 + x4))))), some (pI 1)]) dX5_routeFor_81 (by decide) rfl ?_
          refine Wq.iinc (x := x4) (ls2 := [some (pO 20 9 0), some (pI x1), some (pI x2), some (pI x3), some (pI (x4 + 1)), some (pI (m.1 9 21 0 (ix ((169 + (7 * x2)) + (3 + x4))))), some (pI 1)]) dX5_routeFor_82 rfl (by decide) rfl ?_
          refine Wq.goto (tgt := 5) dX5_routeFor_85 (by decide) ?_
          refine Wq.few (ls' := [some (pO 20 9 0), some (pI x1), some (pI x2), some (pI x3), some (pI (x4 + 1)), none, none]) ⟨rfl, ⟨rfl, ⟨rfl, ⟨rfl, ⟨rfl, trivial⟩⟩⟩⟩⟩ ?_
          exact h
        · replace h := h.2 q8
          refine Wq.iload (x := 1) dX5_routeFor_70 rfl ?_
          refine Wq.ifeq (tgt := 80) dX5_routeFor_72 (by decide) (fun q9 => absurd q9 (by decide)) (fun _ => ?_)
          refine Wq.iload (x := x4) dX5_routeFor_75 rfl ?_
          refine Wq.goto (tgt := 81) dX5_routeFor_77 (by decide) ?_
          refine Wq.istore_n (ls2 := [some (pO 20 9 0), some (pI x1), some (pI x2), some (pI x4), some (pI x4), some (pI (m.1 9 21 0 (ix ((169 + (7 * x2)) + (3 + x4))))), some (pI 1)]) dX5_routeFor_81 (by decide) rfl ?_
          refine Wq.iinc (x := x4) (ls2 := [some (pO 20 9 0), some (pI x1), some (pI x2), some (pI x4), some (pI (x4 + 1)), some (pI (m.1 9 21 0 (ix ((169 + (7 * x2)) + (3 + x4))))), some (pI 1)]) dX5_routeFor_82 rfl (by decide) rfl ?_
          refine Wq.goto (tgt := 5) dX5_routeFor_85 (by decide) ?_
          refine Wq.few (ls' := [some (pO 20 9 0), some (pI x1), some (pI x2), some (pI x4), some (pI (x4 + 1)), none, none]) ⟨rfl, ⟨rfl, ⟨rfl, ⟨rfl, ⟨rfl, trivial⟩⟩⟩⟩⟩ ?_
          exact h
set_option maxHeartbeats 4000000 in
set_option maxRecDepth 20000 in
theorem sgX5_set {g : GG} {d : Nat} {c n : Nat} {m : PM} {Q : Ou → PM → Nat → Nat → Prop} {x1 : Int32} {x2 : Int32} (h : ((¬ x1 = 0 → ((¬ x1 = 1 → ((¬ x1 = 2 → (((¬ x1 < (0 : Int32)) ∧ (¬ (3 : Int32) < x1) → (((¬ x2 < (0 : Int32)) ∧ (¬ (999 : Int32) < x2) → Wp g d MX5_save 0 [some (pO 20 9 0)] [] (setI m 20 9 0 0 0) (cV fun m7 => (vp_in (5 + x1) 341 ∧ (vp_in (5 + x1) 341 ∧ Q (.inl (some (pI (m7.1 9 21 0 (ix (5 + x1)))))) (setI m7 21 9 0 (ix (5 + x1)) x2) c n)))) ∧ (¬ ((¬ x2 < (0 : Int32)) ∧ (¬ (999 : Int32) < x2)) → Q (.inl (some (pI 0))) (setI m 20 9 0 0 2) c n))) ∧ (¬ ((¬ x1 < (0 : Int32)) ∧ (¬ (3 : Int32) < x1)) → Q (.inl (some (pI 0))) (setI m 20 9 0 0 1) c n))) ∧ (x1 = 2 → (((¬ x1 < (0 : Int32)) ∧ (¬ (3 : Int32) < x1) → (((¬ x2 < (0 : Int32)) ∧ (¬ (9 : Int32) < x2) → Wp g d MX5_save 0 [some (pO 20 9 0)] [] (setI m 20 9 0 0 0) (cV fun m13 => (vp_in (5 + x1) 341 ∧ (vp_in (5 + x1) 341 ∧ Q (.inl (some (pI (m13.1 9 21 0 (ix (5 + x1)))))) (setI m13 21 9 0 (ix (5 + x1)) x2) c n)))) ∧ (¬ ((¬ x2 < (0 : Int32)) ∧ (¬ (9 : Int32) < x2)) → Q (.inl (some (pI 0))) (setI m 20 9 0 0 2) c n))) ∧ (¬ ((¬ x1 < (0 : Int32)) ∧ (¬ (3 : Int32) < x1)) → Q (.inl (some (pI 0))) (setI m 20 9 0 0 1) c n))))) ∧ (x1 = 1 → (((¬ x1 < (0 : Int32)) ∧ (¬ (3 : Int32) < x1) → (((¬ x2 < (0 : Int32)) ∧ (¬ (1 : Int32) < x2) → Wp g d MX5_save 0 [some (pO 20 9 0)] [] (setI m 20 9 0 0 0) (cV fun m19 => (vp_in (5 + x1) 341 ∧ (vp_in (5 + x1) 341 ∧ Q (.inl (some (pI (m19.1 9 21 0 (ix (5 + x1)))))) (setI m19 21 9 0 (ix (5 + x1)) x2) c n)))) ∧ (¬ ((¬ x2 < (0 : Int32)) ∧ (¬ (1 : Int32) < x2)) → Q (.inl (some (pI 0))) (setI m 20 9 0 0 2) c n))) ∧ (¬ ((¬ x1 < (0 : Int32)) ∧ (¬ (3 : Int32) < x1)) → Q (.inl (some (pI 0))) (setI m 20 9 0 0 1) c n))))) ∧ (x1 = 0 → (((¬ x1 < (0 : Int32)) ∧ (¬ (3 : Int32) < x1) → (((¬ x2 < (0 : Int32)) ∧ (¬ (20 : Int32) < x2) → Wp g d MX5_save 0 [some (pO 20 9 0)] [] (setI m 20 9 0 0 0) (cV fun m25 => (vp_in (5 + x1) 341 ∧ (vp_in (5 + x1) 341 ∧ Q (.inl (some (pI (m25.1 9 21 0 (ix (5 + x1)))))) (setI m25 21 9 0 (ix (5 + x1)) x2) c n)))) ∧ (¬ ((¬ x2 < (0 : Int32)) ∧ (¬ (20 : Int32) < x2)) → Q (.inl (some (pI 0))) (setI m 20 9 0 0 2) c n))) ∧ (¬ ((¬ x1 < (0 : Int32)) ∧ (¬ (3 : Int32) < x1)) → Q (.inl (some (pI 0))) (setI m 20 9 0 0 1) c n))))) : Wq g (d + 1) MX5_set c n 0 [some (pO 20 9 0), some (pI x1), some (pI x2)] [] m Q := by
  refine Wq.few (ls' := [some (pO 20 9 0), some (pI x1), some (pI x2), none, none]) ⟨rfl, ⟨rfl, ⟨rfl, trivial⟩⟩⟩ ?_
  refine Wq.iload_n (x := x1) dX5_set_0 rfl ?_
  refine Wq.ifne (tgt := 9) dX5_set_1 (by decide) (fun q1 => ?_) (fun q1 => ?_)
  · replace h := h.1 q1
    refine Wq.iload_n (x := x1) dX5_set_9 rfl ?_
    refine Wq.iconst (v := 1) dX5_set_10 (by decide) ?_
    refine Wq.icmpne (tgt := 18) dX5_set_11 (by decide) (fun q2 => ?_) (fun q2 => ?_)
    · replace h := h.1 q2
      refine Wq.iload_n (x := x1) dX5_set_18 rfl ?_
      refine Wq.iconst (v := 2) dX5_set_19 (by decide) ?_
      refine Wq.icmpne (tgt := 28) dX5_set_20 (by decide) (fun q3 => ?_) (fun q3 => ?_)
      · replace h := h.1 q3
        refine Wq.sipush (v := 999) dX5_set_28 (by decide) ?_
        refine Wq.istore_n (ls2 := [some (pO 20 9 0), some (pI x1), some (pI x2), some (pI 999), none]) dX5_set_31 (by decide) rfl ?_
        refine Wq.aload_n (t := 20) (r := 9) (j := 0) dX5_set_32 rfl ?_
        refine Wq.iload_n (x := x1) dX5_set_33 rfl ?_
        refine Wq.iconst (v := 0) dX5_set_34 (by decide) ?_
        refine Wq.iconst (v := 3) dX5_set_35 (by decide) ?_
        refine Wq.callSI (As := [pI x1, pI 0, pI 3]) dX5_set_36 fX5_in ml_X5_45 rfl (Nat.le_of_ble_eq_true rfl) (Nat.le_of_ble_eq_true rfl) (suX5_in trivial) (fun x9 m9 e9 => ?_)
        obtain ⟨rfl, rfl⟩ := e9
        refine Wq.ifne (tgt := 46) dX5_set_39 (by decide) (fun q4 => ?_) (fun q4 => ?_)
        · replace h := h.1 (bI_1 q4)
          refine Wq.iload_n (x := x2) dX5_set_46 rfl ?_
          refine Wq.iconst (v := 0) dX5_set_47 (by decide) ?_
          refine Wq.iload_n (x := 999) dX5_set_48 rfl ?_
          refine Wq.callSI (As := [pI x2, pI 0, pI 999]) dX5_set_49 fX5_in ml_X5_45 rfl (Nat.le_of_ble_eq_true rfl) (Nat.le_of_ble_eq_true rfl) (suX5_in trivial) (fun x8 m9 e9 => ?_)
          obtain ⟨rfl, rfl⟩ := e9
          refine Wq.ifne (tgt := 59) dX5_set_52 (by decide) (fun q5 => ?_) (fun q5 => ?_)
          · replace h := h.1 (bI_1 q5)
            refine Wq.iconst (v := 0) dX5_set_59 (by decide) ?_
            refine Wq.callVI (As := [pI 0]) dX5_set_60 fX5_holds ml_X5_86 rfl (by decide) rfl (Nat.le_of_ble_eq_true rfl) (Nat.le_of_ble_eq_true rfl) ?_ (fun _ _ h9 => h9)
            refine Wq.few (ls' := [some (pO 20 9 0), some (pI 0)]) ⟨rfl, ⟨rfl, trivial⟩⟩ ?_
            refine Wq.aload_n (t := 20) (r := 9) (j := 0) dX5_holds_0 rfl ?_
            refine Wq.iload_n (x := 0) dX5_holds_1 rfl ?_
            refine Wq.putI dX5_holds_2 fw_X5_41 ⟨rfl, rfl, by decide⟩ ⟨rfl, by decide, by decide⟩ ⟨rfl, rfl⟩ ?_
            refine Wq.iload_n (x := 0) dX5_holds_5 rfl ?_
            refine Wq.ifne (tgt := 13) dX5_holds_6 (by decide) (fun q9 => absurd q9 (by decide)) (fun _ => ?_)
            refine Wq.iconst (v := 1) dX5_holds_9 (by decide) ?_
            refine Wq.goto (tgt := 14) dX5_holds_10 (by decide) ?_
            refine Wq.iretI dX5_holds_14 (⟨_, rfl, by decide⟩) ?_
            refine Wq.ifne (tgt := 68) dX5_set_63 (by decide) (fun _ => ?_) (fun q9 => absurd q9 (by decide))
            refine Wq.aload_n (t := 20) (r := 9) (j := 0) dX5_set_68 rfl ?_
            refine Wq.callVV (As := []) dX5_set_69 fX5_save ml_X5_90 rfl (by decide) rfl (Nat.le_of_ble_eq_true rfl) (Nat.le_of_ble_eq_true rfl) h (fun m7 h => ?_)
            refine Wq.aload_n (t := 20) (r := 9) (j := 0) dX5_set_72 rfl ?_
            refine Wq.getf (v := pO 21 9 0) dX5_set_73 fl_X5_7 ⟨rfl, rfl, by decide⟩ rfl ?_
            refine Wq.iconst (v := 5) dX5_set_76 (by decide) ?_
            refine Wq.iload_n (x := x1) dX5_set_77 rfl ?_
            refine Wq.iadd dX5_set_78 ?_
            refine Wq.iald dX5_set_79 rfl h.1 ?_
            replace h := h.2
            refine Wq.istore (ls2 := [some (pO 20 9 0), some (pI x1), some (pI x2), some (pI 999), some (pI (m7.1 9 21 0 (ix (5 + x1))))]) dX5_set_80 (by decide) rfl ?_
            refine Wq.aload_n (t := 20) (r := 9) (j := 0) dX5_set_82 rfl ?_
            refine Wq.getf (v := pO 21 9 0) dX5_set_83 fl_X5_7 ⟨rfl, rfl, by decide⟩ rfl ?_
            refine Wq.iconst (v := 5) dX5_set_86 (by decide) ?_
            refine Wq.iload_n (x := x1) dX5_set_87 rfl ?_
            refine Wq.iadd dX5_set_88 ?_
            refine Wq.iload_n (x := x2) dX5_set_89 rfl ?_
            refine Wq.iast dX5_set_90 rfl h.1 ?_
            replace h := h.2
            refine Wq.iload (x := (m7.1 9 21 0 (ix (5 + x1)))) dX5_set_91 rfl ?_
            exact Wq.iret dX5_set_93 (⟨_, rfl, rfl⟩) h
          · replace h := h.2 (bI_0 q5)
            refine Wq.iconst (v := 2) dX5_set_55 (by decide) ?_
            refine Wq.goto (tgt := 60) dX5_set_56 (by decide) ?_
            refine Wq.callVI (As := [pI 2]) dX5_set_60 fX5_holds ml_X5_86 rfl (by decide) rfl (Nat.le_of_ble_eq_true rfl) (Nat.le_of_ble_eq_true rfl) ?_ (fun _ _ h9 => h9)
            refine Wq.few (ls' := [some (pO 20 9 0), some (pI 2)]) ⟨rfl, ⟨rfl, trivial⟩⟩ ?_
            refine Wq.aload_n (t := 20) (r := 9) (j := 0) dX5_holds_0 rfl ?_
            refine Wq.iload_n (x := 2) dX5_holds_1 rfl ?_
            refine Wq.putI dX5_holds_2 fw_X5_41 ⟨rfl, rfl, by decide⟩ ⟨rfl, by decide, by decide⟩ ⟨rfl, rfl⟩ ?_
            refine Wq.iload_n (x := 2) dX5_holds_5 rfl ?_
            refine Wq.ifne (tgt := 13) dX5_holds_6 (by decide) (fun _ => ?_) (fun q9 => absurd q9 (by decide))
            refine Wq.iconst (v := 0) dX5_holds_13 (by decide) ?_
            refine Wq.iretI dX5_holds_14 (⟨_, rfl, by decide⟩) ?_
            refine Wq.ifne (tgt := 68) dX5_set_63 (by decide) (fun q9 => absurd q9 (by decide)) (fun _ => ?_)
            refine Wq.iconst (v := 0) dX5_set_66 (by decide) ?_
            exact Wq.iret dX5_set_67 (⟨_, rfl, rfl⟩) h
        · replace h := h.2 (bI_0 q4)
          refine Wq.iconst (v := 1) dX5_set_42 (by decide) ?_
          refine Wq.goto (tgt := 60) dX5_set_43 (by decide) ?_
          refine Wq.callVI (As := [pI 1]) dX5_set_60 fX5_holds ml_X5_86 rfl (by decide) rfl (Nat.le_of_ble_eq_true rfl) (Nat.le_of_ble_eq_true rfl) ?_ (fun _ _ h9 => h9)
          refine Wq.few (ls' := [some (pO 20 9 0), some (pI 1)]) ⟨rfl, ⟨rfl, trivial⟩⟩ ?_
          refine Wq.aload_n (t := 20) (r := 9) (j := 0) dX5_holds_0 rfl ?_
          refine Wq.iload_n (x := 1) dX5_holds_1 rfl ?_
          refine Wq.putI dX5_holds_2 fw_X5_41 ⟨rfl, rfl, by decide⟩ ⟨rfl, by decide, by decide⟩ ⟨rfl, rfl⟩ ?_
          refine Wq.iload_n (x := 1) dX5_holds_5 rfl ?_
          refine Wq.ifne (tgt := 13) dX5_holds_6 (by decide) (fun _ => ?_) (fun q9 => absurd q9 (by decide))
          refine Wq.iconst (v := 0) dX5_holds_13 (by decide) ?_
          refine Wq.iretI dX5_holds_14 (⟨_, rfl, by decide⟩) ?_
          refine Wq.ifne (tgt := 68) dX5_set_63 (by decide) (fun q9 => absurd q9 (by decide)) (fun _ => ?_)
          refine Wq.iconst (v := 0) dX5_set_66 (by decide) ?_
          exact Wq.iret dX5_set_67 (⟨_, rfl, rfl⟩) h
      · replace h := h.2 q3
        refine Wq.bipush (v := 9) dX5_set_23 (by decide) ?_
        refine Wq.goto (tgt := 31) dX5_set_25 (by decide) ?_
        refine Wq.istore_n (ls2 := [some (pO 20 9 0), some (pI x1), some (pI x2), some (pI 9), none]) dX5_set_31 (by decide) rfl ?_
        refine Wq.aload_n (t := 20) (r := 9) (j := 0) dX5_set_32 rfl ?_
        refine Wq.iload_n (x := x1) dX5_set_33 rfl ?_
        refine Wq.iconst (v := 0) dX5_set_34 (by decide) ?_
        refine Wq.iconst (v := 3) dX5_set_35 (by decide) ?_
        refine Wq.callSI (As := [pI x1, pI 0, pI 3]) dX5_set_36 fX5_in ml_X5_45 rfl (Nat.le_of_ble_eq_true rfl) (Nat.le_of_ble_eq_true rfl) (suX5_in trivial) (fun x15 m9 e9 => ?_)
        obtain ⟨rfl, rfl⟩ := e9
        refine Wq.ifne (tgt := 46) dX5_set_39 (by decide) (fun q10 => ?_) (fun q10 => ?_)
        · replace h := h.1 (bI_1 q10)
          refine Wq.iload_n (x := x2) dX5_set_46 rfl ?_
          refine Wq.iconst (v := 0) dX5_set_47 (by decide) ?_
          refine Wq.iload_n (x := 9) dX5_set_48 rfl ?_
          refine Wq.callSI (As := [pI x2, pI 0, pI 9]) dX5_set_49 fX5_in ml_X5_45 rfl (Nat.le_of_ble_eq_true rfl) (Nat.le_of_ble_eq_true rfl) (suX5_in trivial) (fun x14 m9 e9 => ?_)
          obtain ⟨rfl, rfl⟩ := e9
          refine Wq.ifne (tgt := 59) dX5_set_52 (by decide) (fun q11 => ?_) (fun q11 => ?_)
          · replace h := h.1 (bI_1 q11)
            refine Wq.iconst (v := 0) dX5_set_59 (by decide) ?_
            refine Wq.callVI (As := [pI 0]) dX5_set_60 fX5_holds ml_X5_86 rfl (by decide) rfl (Nat.le_of_ble_eq_true rfl) (Nat.le_of_ble_eq_true rfl) ?_ (fun _ _ h9 => h9)
            refine Wq.few (ls' := [some (pO 20 9 0), some (pI 0)]) ⟨rfl, ⟨rfl, trivial⟩⟩ ?_
            refine Wq.aload_n (t := 20) (r := 9) (j := 0) dX5_holds_0 rfl ?_
            refine Wq.iload_n (x := 0) dX5_holds_1 rfl ?_
            refine Wq.putI dX5_holds_2 fw_X5_41 ⟨rfl, rfl, by decide⟩ ⟨rfl, by decide, by decide⟩ ⟨rfl, rfl⟩ ?_
            refine Wq.iload_n (x := 0) dX5_holds_5 rfl ?_
            refine Wq.ifne (tgt := 13) dX5_holds_6 (by decide) (fun q9 => absurd q9 (by decide)) (fun _ => ?_)
            refine Wq.iconst (v := 1) dX5_holds_9 (by decide) ?_
            refine Wq.goto (tgt := 14) dX5_holds_10 (by decide) ?_
            refine Wq.iretI dX5_holds_14 (⟨_, rfl, by decide⟩) ?_
            refine Wq.ifne (tgt := 68) dX5_set_63 (by decide) (fun _ => ?_) (fun q9 => absurd q9 (by decide))
            refine Wq.aload_n (t := 20) (r := 9) (j := 0) dX5_set_68 rfl ?_
            refine Wq.callVV (As := []) dX5_set_69 fX5_save ml_X5_90 rfl (by decide) rfl (Nat.le_of_ble_eq_true rfl) (Nat.le_of_ble_eq_true rfl) h (fun m13 h => ?_)
            refine Wq.aload_n (t := 20) (r := 9) (j := 0) dX5_set_72 rfl ?_
            refine Wq.getf (v := pO 21 9 0) dX5_set_73 fl_X5_7 ⟨rfl, rfl, by decide⟩ rfl ?_
            refine Wq.iconst (v := 5) dX5_set_76 (by decide) ?_
            refine Wq.iload_n (x := x1) dX5_set_77 rfl ?_
            refine Wq.iadd dX5_set_78 ?_
            refine Wq.iald dX5_set_79 rfl h.1 ?_
            replace h := h.2
            refine Wq.istore (ls2 := [some (pO 20 9 0), some (pI x1), some (pI x2), some (pI 9), some (pI (m13.1 9 21 0 (ix (5 + x1))))]) dX5_set_80 (by decide) rfl ?_
            refine Wq.aload_n (t := 20) (r := 9) (j := 0) dX5_set_82 rfl ?_
            refine Wq.getf (v := pO 21 9 0) dX5_set_83 fl_X5_7 ⟨rfl, rfl, by decide⟩ rfl ?_
            refine Wq.iconst (v := 5) dX5_set_86 (by decide) ?_
            refine Wq.iload_n (x := x1) dX5_set_87 rfl ?_
            refine Wq.iadd dX5_set_88 ?_
            refine Wq.iload_n (x := x2) dX5_set_89 rfl ?_
            refine Wq.iast dX5_set_90 rfl h.1 ?_
            replace h := h.2
            refine Wq.iload (x := (m13.1 9 21 0 (ix (5 + x1)))) dX5_set_91 rfl ?_
            exact Wq.iret dX5_set_93 (⟨_, rfl, rfl⟩) h
          · replace h := h.2 (bI_0 q11)
            refine Wq.iconst (v := 2) dX5_set_55 (by decide) ?_
            refine Wq.goto (tgt := 60) dX5_set_56 (by decide) ?_
            refine Wq.callVI (As := [pI 2]) dX5_set_60 fX5_holds ml_X5_86 rfl (by decide) rfl (Nat.le_of_ble_eq_true rfl) (Nat.le_of_ble_eq_true rfl) ?_ (fun _ _ h9 => h9)
            refine Wq.few (ls' := [some (pO 20 9 0), some (pI 2)]) ⟨rfl, ⟨rfl, trivial⟩⟩ ?_
            refine Wq.aload_n (t := 20) (r := 9) (j := 0) dX5_holds_0 rfl ?_
            refine Wq.iload_n (x := 2) dX5_holds_1 rfl ?_
            refine Wq.putI dX5_holds_2 fw_X5_41 ⟨rfl, rfl, by decide⟩ ⟨rfl, by decide, by decide⟩ ⟨rfl, rfl⟩ ?_
            refine Wq.iload_n (x := 2) dX5_holds_5 rfl ?_
            refine Wq.ifne (tgt := 13) dX5_holds_6 (by decide) (fun _ => ?_) (fun q9 => absurd q9 (by decide))
            refine Wq.iconst (v := 0) dX5_holds_13 (by decide) ?_
            refine Wq.iretI dX5_holds_14 (⟨_, rfl, by decide⟩) ?_
            refine Wq.ifne (tgt := 68) dX5_set_63 (by decide) (fun q9 => absurd q9 (by decide)) (fun _ => ?_)
            refine Wq.iconst (v := 0) dX5_set_66 (by decide) ?_
            exact Wq.iret dX5_set_67 (⟨_, rfl, rfl⟩) h
        · replace h := h.2 (bI_0 q10)
          refine Wq.iconst (v := 1) dX5_set_42 (by decide) ?_
          refine Wq.goto (tgt := 60) dX5_set_43 (by decide) ?_
          refine Wq.callVI (As := [pI 1]) dX5_set_60 fX5_holds ml_X5_86 rfl (by decide) rfl (Nat.le_of_ble_eq_true rfl) (Nat.le_of_ble_eq_true rfl) ?_ (fun _ _ h9 => h9)
          refine Wq.few (ls' := [some (pO 20 9 0), some (pI 1)]) ⟨rfl, ⟨rfl, trivial⟩⟩ ?_
          refine Wq.aload_n (t := 20) (r := 9) (j := 0) dX5_holds_0 rfl ?_
          refine Wq.iload_n (x := 1) dX5_holds_1 rfl ?_
          refine Wq.putI dX5_holds_2 fw_X5_41 ⟨rfl, rfl, by decide⟩ ⟨rfl, by decide, by decide⟩ ⟨rfl, rfl⟩ ?_
          refine Wq.iload_n (x := 1) dX5_holds_5 rfl ?_
          refine Wq.ifne (tgt := 13) dX5_holds_6 (by decide) (fun _ => ?_) (fun q9 => absurd q9 (by decide))
          refine Wq.iconst (v := 0) dX5_holds_13 (by decide) ?_
          refine Wq.iretI dX5_holds_14 (⟨_, rfl, by decide⟩) ?_
          refine Wq.ifne (tgt := 68) dX5_set_63 (by decide) (fun q9 => absurd q9 (by decide)) (fun _ => ?_)
          refine Wq.iconst (v := 0) dX5_set_66 (by decide) ?_
          exact Wq.iret dX5_set_67 (⟨_, rfl, rfl⟩) h
    · replace h := h.2 q2
      refine Wq.iconst (v := 1) dX5_set_14 (by decide) ?_
      refine Wq.goto (tgt := 31) dX5_set_15 (by decide) ?_
      refine Wq.istore_n (ls2 := [some (pO 20 9 0), some (pI x1), some (pI x2), some (pI 1), none]) dX5_set_31 (by decide) rfl ?_
      refine Wq.aload_n (t := 20) (r := 9) (j := 0) dX5_set_32 rfl ?_
      refine Wq.iload_n (x := x1) dX5_set_33 rfl ?_
      refine Wq.iconst (v := 0) dX5_set_34 (by decide) ?_
      refine Wq.iconst (v := 3) dX5_set_35 (by decide) ?_
      refine Wq.callSI (As := [pI x1, pI 0, pI 3]) dX5_set_36 fX5_in ml_X5_45 rfl (Nat.le_of_ble_eq_true rfl) (Nat.le_of_ble_eq_true rfl) (suX5_in trivial) (fun x21 m9 e9 => ?_)
      obtain ⟨rfl, rfl⟩ := e9
      refine Wq.ifne (tgt := 46) dX5_set_39 (by decide) (fun q16 => ?_) (fun q16 => ?_)
      · replace h := h.1 (bI_1 q16)
        refine Wq.iload_n (x := x2) dX5_set_46 rfl ?_
        refine Wq.iconst (v := 0) dX5_set_47 (by decide) ?_
        refine Wq.iload_n (x := 1) dX5_set_48 rfl ?_
        refine Wq.callSI (As := [pI x2, pI 0, pI 1]) dX5_set_49 fX5_in ml_X5_45 rfl (Nat.le_of_ble_eq_true rfl) (Nat.le_of_ble_eq_true rfl) (suX5_in trivial) (fun x20 m9 e9 => ?_)
        obtain ⟨rfl, rfl⟩ := e9
        refine Wq.ifne (tgt := 59) dX5_set_52 (by decide) (fun q17 => ?_) (fun q17 => ?_)
        · replace h := h.1 (bI_1 q17)
          refine Wq.iconst (v := 0) dX5_set_59 (by decide) ?_
          refine Wq.callVI (As := [pI 0]) dX5_set_60 fX5_holds ml_X5_86 rfl (by decide) rfl (Nat.le_of_ble_eq_true rfl) (Nat.le_of_ble_eq_true rfl) ?_ (fun _ _ h9 => h9)
          refine Wq.few (ls' := [some (pO 20 9 0), some (pI 0)]) ⟨rfl, ⟨rfl, trivial⟩⟩ ?_
          refine Wq.aload_n (t := 20) (r := 9) (j := 0) dX5_holds_0 rfl ?_
          refine Wq.iload_n (x := 0) dX5_holds_1 rfl ?_
          refine Wq.putI dX5_holds_2 fw_X5_41 ⟨rfl, rfl, by decide⟩ ⟨rfl, by decide, by decide⟩ ⟨rfl, rfl⟩ ?_
          refine Wq.iload_n (x := 0) dX5_holds_5 rfl ?_
          refine Wq.ifne (tgt := 13) dX5_holds_6 (by decide) (fun q9 => absurd q9 (by decide)) (fun _ => ?_)
          refine Wq.iconst (v := 1) dX5_holds_9 (by decide) ?_
          refine Wq.goto (tgt := 14) dX5_holds_10 (by decide) ?_
          refine Wq.iretI dX5_holds_14 (⟨_, rfl, by decide⟩) ?_
          refine Wq.ifne (tgt := 68) dX5_set_63 (by decide) (fun _ => ?_) (fun q9 => absurd q9 (by decide))
          refine Wq.aload_n (t := 20) (r := 9) (j := 0) dX5_set_68 rfl ?_
          refine Wq.callVV (As := []) dX5_set_69 fX5_save ml_X5_90 rfl (by decide) rfl (Nat.le_of_ble_eq_true rfl) (Nat.le_of_ble_eq_true rfl) h (fun m19 h => ?_)
          refine Wq.aload_n (t := 20) (r := 9) (j := 0) dX5_set_72 rfl ?_
          refine Wq.getf (v := pO 21 9 0) dX5_set_73 fl_X5_7 ⟨rfl, rfl, by decide⟩ rfl ?_
          refine Wq.iconst (v := 5) dX5_set_76 (by decide) ?_
          refine Wq.iload_n (x := x1) dX5_set_77 rfl ?_
          refine Wq.iadd dX5_set_78 ?_
          refine Wq.iald dX5_set_79 rfl h.1 ?_
          replace h := h.2
          refine Wq.istore (ls2 := [some (pO 20 9 0), some (pI x1), some (pI x2), some (pI 1), some (pI (m19.1 9 21 0 (ix (5 + x1))))]) dX5_set_80 (by decide) rfl ?_
          refine Wq.aload_n (t := 20) (r := 9) (j := 0) dX5_set_82 rfl ?_
          refine Wq.getf (v := pO 21 9 0) dX5_set_83 fl_X5_7 ⟨rfl, rfl, by decide⟩ rfl ?_
          refine Wq.iconst (v := 5) dX5_set_86 (by decide) ?_
          refine Wq.iload_n (x := x1) dX5_set_87 rfl ?_
          refine Wq.iadd dX5_set_88 ?_
          refine Wq.iload_n (x := x2) dX5_set_89 rfl ?_
          refine Wq.iast dX5_set_90 rfl h.1 ?_
          replace h := h.2
          refine Wq.iload (x := (m19.1 9 21 0 (ix (5 + x1)))) dX5_set_91 rfl ?_
          exact Wq.iret dX5_set_93 (⟨_, rfl, rfl⟩) h
        · replace h := h.2 (bI_0 q17)
          refine Wq.iconst (v := 2) dX5_set_55 (by decide) ?_
          refine Wq.goto (tgt := 60) dX5_set_56 (by decide) ?_
          refine Wq.callVI (As := [pI 2]) dX5_set_60 fX5_holds ml_X5_86 rfl (by decide) rfl (Nat.le_of_ble_eq_true rfl) (Nat.le_of_ble_eq_true rfl) ?_ (fun _ _ h9 => h9)
          refine Wq.few (ls' := [some (pO 20 9 0), some (pI 2)]) ⟨rfl, ⟨rfl, trivial⟩⟩ ?_
          refine Wq.aload_n (t := 20) (r := 9) (j := 0) dX5_holds_0 rfl ?_
          refine Wq.iload_n (x := 2) dX5_holds_1 rfl ?_
          refine Wq.putI dX5_holds_2 fw_X5_41 ⟨rfl, rfl, by decide⟩ ⟨rfl, by decide, by decide⟩ ⟨rfl, rfl⟩ ?_
          refine Wq.iload_n (x := 2) dX5_holds_5 rfl ?_
          refine Wq.ifne (tgt := 13) dX5_holds_6 (by decide) (fun _ => ?_) (fun q9 => absurd q9 (by decide))
          refine Wq.iconst (v := 0) dX5_holds_13 (by decide) ?_
          refine Wq.iretI dX5_holds_14 (⟨_, rfl, by decide⟩) ?_
          refine Wq.ifne (tgt := 68) dX5_set_63 (by decide) (fun q9 => absurd q9 (by decide)) (fun _ => ?_)
          refine Wq.iconst (v := 0) dX5_set_66 (by decide) ?_
          exact Wq.iret dX5_set_67 (⟨_, rfl, rfl⟩) h
      · replace h := h.2 (bI_0 q16)
        refine Wq.iconst (v := 1) dX5_set_42 (by decide) ?_
        refine Wq.goto (tgt := 60) dX5_set_43 (by decide) ?_
        refine Wq.callVI (As := [pI 1]) dX5_set_60 fX5_holds ml_X5_86 rfl (by decide) rfl (Nat.le_of_ble_eq_true rfl) (Nat.le_of_ble_eq_true rfl) ?_ (fun _ _ h9 => h9)
        refine Wq.few (ls' := [some (pO 20 9 0), some (pI 1)]) ⟨rfl, ⟨rfl, trivial⟩⟩ ?_
        refine Wq.aload_n (t := 20) (r := 9) (j := 0) dX5_holds_0 rfl ?_
        refine Wq.iload_n (x := 1) dX5_holds_1 rfl ?_
        refine Wq.putI dX5_holds_2 fw_X5_41 ⟨rfl, rfl, by decide⟩ ⟨rfl, by decide, by decide⟩ ⟨rfl, rfl⟩ ?_
        refine Wq.iload_n (x := 1) dX5_holds_5 rfl ?_
        refine Wq.ifne (tgt := 13) dX5_holds_6 (by decide) (fun _ => ?_) (fun q9 => absurd q9 (by decide))
        refine Wq.iconst (v := 0) dX5_holds_13 (by decide) ?_
        refine Wq.iretI dX5_holds_14 (⟨_, rfl, by decide⟩) ?_
        refine Wq.ifne (tgt := 68) dX5_set_63 (by decide) (fun q9 => absurd q9 (by decide)) (fun _ => ?_)
        refine Wq.iconst (v := 0) dX5_set_66 (by decide) ?_
        exact Wq.iret dX5_set_67 (⟨_, rfl, rfl⟩) h
  · replace h := h.2 q1
    refine Wq.bipush (v := 20) dX5_set_4 (by decide) ?_
    refine Wq.goto (tgt := 31) dX5_set_6 (by decide) ?_
    refine Wq.istore_n (ls2 := [some (pO 20 9 0), some (pI x1), some (pI x2), some (pI 20), none]) dX5_set_31 (by decide) rfl ?_
    refine Wq.aload_n (t := 20) (r := 9) (j := 0) dX5_set_32 rfl ?_
    refine Wq.iload_n (x := x1) dX5_set_33 rfl ?_
    refine Wq.iconst (v := 0) dX5_set_34 (by decide) ?_
    refine Wq.iconst (v := 3) dX5_set_35 (by decide) ?_
    refine Wq.callSI (As := [pI x1, pI 0, pI 3]) dX5_set_36 fX5_in ml_X5_45 rfl (Nat.le_of_ble_eq_true rfl) (Nat.le_of_ble_eq_true rfl) (suX5_in trivial) (fun x27 m9 e9 => ?_)
    obtain ⟨rfl, rfl⟩ := e9
    refine Wq.ifne (tgt := 46) dX5_set_39 (by decide) (fun q22 => ?_) (fun q22 => ?_)
    · replace h := h.1 (bI_1 q22)
      refine Wq.iload_n (x := x2) dX5_set_46 rfl ?_
      refine Wq.iconst (v := 0) dX5_set_47 (by decide) ?_
      refine Wq.iload_n (x := 20) dX5_set_48 rfl ?_
      refine Wq.callSI (As := [pI x2, pI 0, pI 20]) dX5_set_49 fX5_in ml_X5_45 rfl (Nat.le_of_ble_eq_true rfl) (Nat.le_of_ble_eq_true rfl) (suX5_in trivial) (fun x26 m9 e9 => ?_)
      obtain ⟨rfl, rfl⟩ := e9
      refine Wq.ifne (tgt := 59) dX5_set_52 (by decide) (fun q23 => ?_) (fun q23 => ?_)
      · replace h := h.1 (bI_1 q23)
        refine Wq.iconst (v := 0) dX5_set_59 (by decide) ?_
        refine Wq.callVI (As := [pI 0]) dX5_set_60 fX5_holds ml_X5_86 rfl (by decide) rfl (Nat.le_of_ble_eq_true rfl) (Nat.le_of_ble_eq_true rfl) ?_ (fun _ _ h9 => h9)
        refine Wq.few (ls' := [some (pO 20 9 0), some (pI 0)]) ⟨rfl, ⟨rfl, trivial⟩⟩ ?_
        refine Wq.aload_n (t := 20) (r := 9) (j := 0) dX5_holds_0 rfl ?_
        refine Wq.iload_n (x := 0) dX5_holds_1 rfl ?_
        refine Wq.putI dX5_holds_2 fw_X5_41 ⟨rfl, rfl, by decide⟩ ⟨rfl, by decide, by decide⟩ ⟨rfl, rfl⟩ ?_
        refine Wq.iload_n (x := 0) dX5_holds_5 rfl ?_
        refine Wq.ifne (tgt := 13) dX5_holds_6 (by decide) (fun q9 => absurd q9 (by decide)) (fun _ => ?_)
        refine Wq.iconst (v := 1) dX5_holds_9 (by decide) ?_
        refine Wq.goto (tgt := 14) dX5_holds_10 (by decide) ?_
        refine Wq.iretI dX5_holds_14 (⟨_, rfl, by decide⟩) ?_
        refine Wq.ifne (tgt := 68) dX5_set_63 (by decide) (fun _ => ?_) (fun q9 => absurd q9 (by decide))
        refine Wq.aload_n (t := 20) (r := 9) (j := 0) dX5_set_68 rfl ?_
        refine Wq.callVV (As := []) dX5_set_69 fX5_save ml_X5_90 rfl (by decide) rfl (Nat.le_of_ble_eq_true rfl) (Nat.le_of_ble_eq_true rfl) h (fun m25 h => ?_)
        refine Wq.aload_n (t := 20) (r := 9) (j := 0) dX5_set_72 rfl ?_
        refine Wq.getf (v := pO 21 9 0) dX5_set_73 fl_X5_7 ⟨rfl, rfl, by decide⟩ rfl ?_
        refine Wq.iconst (v := 5) dX5_set_76 (by decide) ?_
        refine Wq.iload_n (x := x1) dX5_set_77 rfl ?_
        refine Wq.iadd dX5_set_78 ?_
        refine Wq.iald dX5_set_79 rfl h.1 ?_
        replace h := h.2
        refine Wq.istore (ls2 := [some (pO 20 9 0), some (pI x1), some (pI x2), some (pI 20), some (pI (m25.1 9 21 0 (ix (5 + x1))))]) dX5_set_80 (by decide) rfl ?_
        refine Wq.aload_n (t := 20) (r := 9) (j := 0) dX5_set_82 rfl ?_
        refine Wq.getf (v := pO 21 9 0) dX5_set_83 fl_X5_7 ⟨rfl, rfl, by decide⟩ rfl ?_
        refine Wq.iconst (v := 5) dX5_set_86 (by decide) ?_
        refine Wq.iload_n (x := x1) dX5_set_87 rfl ?_
        refine Wq.iadd dX5_set_88 ?_
        refine Wq.iload_n (x := x2) dX5_set_89 rfl ?_
        refine Wq.iast dX5_set_90 rfl h.1 ?_
        replace h := h.2
        refine Wq.iload (x := (m25.1 9 21 0 (ix (5 + x1)))) dX5_set_91 rfl ?_
        exact Wq.iret dX5_set_93 (⟨_, rfl, rfl⟩) h
      · replace h := h.2 (bI_0 q23)
        refine Wq.iconst (v := 2) dX5_set_55 (by decide) ?_
        refine Wq.goto (tgt := 60) dX5_set_56 (by decide) ?_
        refine Wq.callVI (As := [pI 2]) dX5_set_60 fX5_holds ml_X5_86 rfl (by decide) rfl (Nat.le_of_ble_eq_true rfl) (Nat.le_of_ble_eq_true rfl) ?_ (fun _ _ h9 => h9)
        refine Wq.few (ls' := [some (pO 20 9 0), some (pI 2)]) ⟨rfl, ⟨rfl, trivial⟩⟩ ?_
        refine Wq.aload_n (t := 20) (r := 9) (j := 0) dX5_holds_0 rfl ?_
        refine Wq.iload_n (x := 2) dX5_holds_1 rfl ?_
        refine Wq.putI dX5_holds_2 fw_X5_41 ⟨rfl, rfl, by decide⟩ ⟨rfl, by decide, by decide⟩ ⟨rfl, rfl⟩ ?_
        refine Wq.iload_n (x := 2) dX5_holds_5 rfl ?_
        refine Wq.ifne (tgt := 13) dX5_holds_6 (by decide) (fun _ => ?_) (fun q9 => absurd q9 (by decide))
        refine Wq.iconst (v := 0) dX5_holds_13 (by decide) ?_
        refine Wq.iretI dX5_holds_14 (⟨_, rfl, by decide⟩) ?_
        refine Wq.ifne (tgt := 68) dX5_set_63 (by decide) (fun q9 => absurd q9 (by decide)) (fun _ => ?_)
        refine Wq.iconst (v := 0) dX5_set_66 (by decide) ?_
        exact Wq.iret dX5_set_67 (⟨_, rfl, rfl⟩) h
    · replace h := h.2 (bI_0 q22)
      refine Wq.iconst (v := 1) dX5_set_42 (by decide) ?_
      refine Wq.goto (tgt := 60) dX5_set_43 (by decide) ?_
      refine Wq.callVI (As := [pI 1]) dX5_set_60 fX5_holds ml_X5_86 rfl (by decide) rfl (Nat.le_of_ble_eq_true rfl) (Nat.le_of_ble_eq_true rfl) ?_ (fun _ _ h9 => h9)
      refine Wq.few (ls' := [some (pO 20 9 0), some (pI 1)]) ⟨rfl, ⟨rfl, trivial⟩⟩ ?_
      refine Wq.aload_n (t := 20) (r := 9) (j := 0) dX5_holds_0 rfl ?_
      refine Wq.iload_n (x := 1) dX5_holds_1 rfl ?_
      refine Wq.putI dX5_holds_2 fw_X5_41 ⟨rfl, rfl, by decide⟩ ⟨rfl, by decide, by decide⟩ ⟨rfl, rfl⟩ ?_
      refine Wq.iload_n (x := 1) dX5_holds_5 rfl ?_
      refine Wq.ifne (tgt := 13) dX5_holds_6 (by decide) (fun _ => ?_) (fun q9 => absurd q9 (by decide))
      refine Wq.iconst (v := 0) dX5_holds_13 (by decide) ?_
      refine Wq.iretI dX5_holds_14 (⟨_, rfl, by decide⟩) ?_
      refine Wq.ifne (tgt := 68) dX5_set_63 (by decide) (fun q9 => absurd q9 (by decide)) (fun _ => ?_)
      refine Wq.iconst (v := 0) dX5_set_66 (by decide) ?_
      exact Wq.iret dX5_set_67 (⟨_, rfl, rfl⟩) h
set_option maxHeartbeats 4000000 in
set_option maxRecDepth 20000 in
theorem sgX5_append {g : GG} {d : Nat} {c n : Nat} {m : PM} {Q : Ou → PM → Nat → Nat → Prop} {x1 : Int32} (h : (((¬ x1 < (33 : Int32)) ∧ (¬ (126 : Int32) < x1) → ((¬ (m.1 9 20 0 6) = 60 → (vp_in ((setI m 20 9 0 0 0).1 9 20 0 6) 60 ∧ Q (.inl (some (pI ((setI (setI (setI m 20 9 0 0 0) 24 9 0 (ix ((setI m 20 9 0 0 0).1 9 20 0 6)) x1) 20 9 0 6 (((setI (setI m 20 9 0 0 0) 24 9 0 (ix ((setI m 20 9 0 0 0).1 9 20 0 6)) x1).1 9 20 0 6) + 1)).1 9 20 0 6)))) (setI (setI (setI m 20 9 0 0 0) 24 9 0 (ix ((setI m 20 9 0 0 0).1 9 20 0 6)) x1) 20 9 0 6 (((setI (setI m 20 9 0 0 0) 24 9 0 (ix ((setI m 20 9 0 0 0).1 9 20 0 6)) x1).1 9 20 0 6) + 1)) c n)) ∧ ((m.1 9 20 0 6) = 60 → Q (.inl (some (pI 0))) (setI m 20 9 0 0 2) c n))) ∧ (¬ ((¬ x1 < (33 : Int32)) ∧ (¬ (126 : Int32) < x1)) → Q (.inl (some (pI 0))) (setI m 20 9 0 0 1) c n))) : Wq g (d + 1) MX5_append c n 0 [some (pO 20 9 0), some (pI x1)] [] m Q := by
  refine Wq.few (ls' := [some (pO 20 9 0), some (pI x1)]) ⟨rfl, ⟨rfl, trivial⟩⟩ ?_
  refine Wq.aload_n (t := 20) (r := 9) (j := 0) dX5_append_0 rfl ?_
  refine Wq.iload_n (x := x1) dX5_append_1 rfl ?_
  refine Wq.bipush (v := 33) dX5_append_2 (by decide) ?_
  refine Wq.bipush (v := 126) dX5_append_4 (by decide) ?_
  refine Wq.callSI (As := [pI x1, pI 33, pI 126]) dX5_append_6 fX5_in ml_X5_45 rfl (Nat.le_of_ble_eq_true rfl) (Nat.le_of_ble_eq_true rfl) (suX5_in trivial) (fun x3 m9 e9 => ?_)
  obtain ⟨rfl, rfl⟩ := e9
  refine Wq.ifne (tgt := 16) dX5_append_9 (by decide) (fun q1 => ?_) (fun q1 => ?_)
  · replace h := h.1 (bI_1 q1)
    refine Wq.aload_n (t := 20) (r := 9) (j := 0) dX5_append_16 rfl ?_
    refine Wq.getf (v := pI (m.1 9 20 0 6)) dX5_append_17 fl_X5_147 ⟨rfl, rfl, by decide⟩ rfl ?_
    refine Wq.bipush (v := 60) dX5_append_20 (by decide) ?_
    refine Wq.icmpne (tgt := 29) dX5_append_22 (by decide) (fun q2 => ?_) (fun q2 => ?_)
    · replace h := h.1 q2
      refine Wq.iconst (v := 0) dX5_append_29 (by decide) ?_
      refine Wq.callVI (As := [pI 0]) dX5_append_30 fX5_holds ml_X5_86 rfl (by decide) rfl (Nat.le_of_ble_eq_true rfl) (Nat.le_of_ble_eq_true rfl) ?_ (fun _ _ h9 => h9)
      refine Wq.few (ls' := [some (pO 20 9 0), some (pI 0)]) ⟨rfl, ⟨rfl, trivial⟩⟩ ?_
      refine Wq.aload_n (t := 20) (r := 9) (j := 0) dX5_holds_0 rfl ?_
      refine Wq.iload_n (x := 0) dX5_holds_1 rfl ?_
      refine Wq.putI dX5_holds_2 fw_X5_41 ⟨rfl, rfl, by decide⟩ ⟨rfl, by decide, by decide⟩ ⟨rfl, rfl⟩ ?_
      refine Wq.iload_n (x := 0) dX5_holds_5 rfl ?_
      refine Wq.ifne (tgt := 13) dX5_holds_6 (by decide) (fun q9 => absurd q9 (by decide)) (fun _ => ?_)
      refine Wq.iconst (v := 1) dX5_holds_9 (by decide) ?_
      refine Wq.goto (tgt := 14) dX5_holds_10 (by decide) ?_
      refine Wq.iretI dX5_holds_14 (⟨_, rfl, by decide⟩) ?_
      refine Wq.ifne (tgt := 38) dX5_append_33 (by decide) (fun _ => ?_) (fun q9 => absurd q9 (by decide))
      refine Wq.aload_n (t := 20) (r := 9) (j := 0) dX5_append_38 rfl ?_
      refine Wq.getf (v := pO 24 9 0) dX5_append_39 fl_X5_19 ⟨rfl, rfl, by decide⟩ rfl ?_
      refine Wq.aload_n (t := 20) (r := 9) (j := 0) dX5_append_42 rfl ?_
      refine Wq.getf (v := pI ((setI m 20 9 0 0 0).1 9 20 0 6)) dX5_append_43 fl_X5_147 ⟨rfl, rfl, by decide⟩ rfl ?_
      refine Wq.iload_n (x := x1) dX5_append_46 rfl ?_
      refine Wq.iast dX5_append_47 rfl h.1 ?_
      replace h := h.2
      refine Wq.aload_n (t := 20) (r := 9) (j := 0) dX5_append_48 rfl ?_
      refine Wq.dup dX5_append_49 rfl ?_
      refine Wq.getf (v := pI ((setI (setI m 20 9 0 0 0) 24 9 0 (ix ((setI m 20 9 0 0 0).1 9 20 0 6)) x1).1 9 20 0 6)) dX5_append_50 fl_X5_147 ⟨rfl, rfl, by decide⟩ rfl ?_
      refine Wq.iconst (v := 1) dX5_append_53 (by decide) ?_
      refine Wq.iadd dX5_append_54 ?_
      refine Wq.putI dX5_append_55 fw_X5_147 ⟨rfl, rfl, by decide⟩ ⟨rfl, by decide, by decide⟩ ⟨rfl, rfl⟩ ?_
      refine Wq.aload_n (t := 20) (r := 9) (j := 0) dX5_append_58 rfl ?_
      refine Wq.getf (v := pI ((setI (setI (setI m 20 9 0 0 0) 24 9 0 (ix ((setI m 20 9 0 0 0).1 9 20 0 6)) x1) 20 9 0 6 (((setI (setI m 20 9 0 0 0) 24 9 0 (ix ((setI m 20 9 0 0 0).1 9 20 0 6)) x1).1 9 20 0 6) + 1)).1 9 20 0 6)) dX5_append_59 fl_X5_147 ⟨rfl, rfl, by decide⟩ rfl ?_
      exact Wq.iret dX5_append_62 (⟨_, rfl, rfl⟩) h
    · replace h := h.2 q2
      refine Wq.iconst (v := 2) dX5_append_25 (by decide) ?_
      refine Wq.goto (tgt := 30) dX5_append_26 (by decide) ?_
      refine Wq.callVI (As := [pI 2]) dX5_append_30 fX5_holds ml_X5_86 rfl (by decide) rfl (Nat.le_of_ble_eq_true rfl) (Nat.le_of_ble_eq_true rfl) ?_ (fun _ _ h9 => h9)
      refine Wq.few (ls' := [some (pO 20 9 0), some (pI 2)]) ⟨rfl, ⟨rfl, trivial⟩⟩ ?_
      refine Wq.aload_n (t := 20) (r := 9) (j := 0) dX5_holds_0 rfl ?_
      refine Wq.iload_n (x := 2) dX5_holds_1 rfl ?_
      refine Wq.putI dX5_holds_2 fw_X5_41 ⟨rfl, rfl, by decide⟩ ⟨rfl, by decide, by decide⟩ ⟨rfl, rfl⟩ ?_
      refine Wq.iload_n (x := 2) dX5_holds_5 rfl ?_
      refine Wq.ifne (tgt := 13) dX5_holds_6 (by decide) (fun _ => ?_) (fun q9 => absurd q9 (by decide))
      refine Wq.iconst (v := 0) dX5_holds_13 (by decide) ?_
      refine Wq.iretI dX5_holds_14 (⟨_, rfl, by decide⟩) ?_
      refine Wq.ifne (tgt := 38) dX5_append_33 (by decide) (fun q9 => absurd q9 (by decide)) (fun _ => ?_)
      refine Wq.iconst (v := 0) dX5_append_36 (by decide) ?_
      exact Wq.iret dX5_append_37 (⟨_, rfl, rfl⟩) h
  · replace h := h.2 (bI_0 q1)
    refine Wq.iconst (v := 1) dX5_append_12 (by decide) ?_
    refine Wq.goto (tgt := 30) dX5_append_13 (by decide) ?_
    refine Wq.callVI (As := [pI 1]) dX5_append_30 fX5_holds ml_X5_86 rfl (by decide) rfl (Nat.le_of_ble_eq_true rfl) (Nat.le_of_ble_eq_true rfl) ?_ (fun _ _ h9 => h9)
    refine Wq.few (ls' := [some (pO 20 9 0), some (pI 1)]) ⟨rfl, ⟨rfl, trivial⟩⟩ ?_
    refine Wq.aload_n (t := 20) (r := 9) (j := 0) dX5_holds_0 rfl ?_
    refine Wq.iload_n (x := 1) dX5_holds_1 rfl ?_
    refine Wq.putI dX5_holds_2 fw_X5_41 ⟨rfl, rfl, by decide⟩ ⟨rfl, by decide, by decide⟩ ⟨rfl, rfl⟩ ?_
    refine Wq.iload_n (x := 1) dX5_holds_5 rfl ?_
    refine Wq.ifne (tgt := 13) dX5_holds_6 (by decide) (fun _ => ?_) (fun q9 => absurd q9 (by decide))
    refine Wq.iconst (v := 0) dX5_holds_13 (by decide) ?_
    refine Wq.iretI dX5_holds_14 (⟨_, rfl, by decide⟩) ?_
    refine Wq.ifne (tgt := 38) dX5_append_33 (by decide) (fun q9 => absurd q9 (by decide)) (fun _ => ?_)
    refine Wq.iconst (v := 0) dX5_append_36 (by decide) ?_
    exact Wq.iret dX5_append_37 (⟨_, rfl, rfl⟩) h
set_option maxHeartbeats 4000000 in
set_option maxRecDepth 20000 in
theorem sgX5_sign {g : GG} {d : Nat} {c n : Nat} {m : PM} {Q : Ou → PM → Nat → Nat → Prop} {x1 : Int32} {x2 : Int32} (h : (((m.1 9 20 0 6) ≤ (m.1 9 20 0 8) → Wq g (d + 1) MX5_sign c n 24 [some (pO 20 9 0), some (pI x1), some (pI x2), none] [pI 0] m Q) ∧ (¬ (m.1 9 20 0 6) ≤ (m.1 9 20 0 8) → (vp_in (m.1 9 20 0 8) 60 ∧ Wq g (d + 1) MX5_sign c n 24 [some (pO 20 9 0), some (pI x1), some (pI x2), none] [pI (m.1 9 24 0 (ix (m.1 9 20 0 8)))] m Q)))) : Wq g (d + 1) MX5_sign c n 0 [some (pO 20 9 0), some (pI x1), some (pI x2)] [] m Q := by
  refine Wq.few (ls' := [some (pO 20 9 0), some (pI x1), some (pI x2), none]) ⟨rfl, ⟨rfl, ⟨rfl, trivial⟩⟩⟩ ?_
  refine Wq.aload_n (t := 20) (r := 9) (j := 0) dX5_sign_0 rfl ?_
  refine Wq.getf (v := pI (m.1 9 20 0 8)) dX5_sign_1 fl_X5_150 ⟨rfl, rfl, by decide⟩ rfl ?_
  refine Wq.aload_n (t := 20) (r := 9) (j := 0) dX5_sign_4 rfl ?_
  refine Wq.getf (v := pI (m.1 9 20 0 6)) dX5_sign_5 fl_X5_147 ⟨rfl, rfl, by decide⟩ rfl ?_
  refine Wq.icmpge (tgt := 23) dX5_sign_8 (by decide) (fun q1 => ?_) (fun q1 => ?_)
  · replace h := h.1 q1
    refine Wq.iconst (v := 0) dX5_sign_23 (by decide) ?_
    exact h
  · replace h := h.2 q1
    refine Wq.aload_n (t := 20) (r := 9) (j := 0) dX5_sign_11 rfl ?_
    refine Wq.getf (v := pO 24 9 0) dX5_sign_12 fl_X5_19 ⟨rfl, rfl, by decide⟩ rfl ?_
    refine Wq.aload_n (t := 20) (r := 9) (j := 0) dX5_sign_15 rfl ?_
    refine Wq.getf (v := pI (m.1 9 20 0 8)) dX5_sign_16 fl_X5_150 ⟨rfl, rfl, by decide⟩ rfl ?_
    refine Wq.iald dX5_sign_19 rfl h.1 ?_
    replace h := h.2
    refine Wq.goto (tgt := 24) dX5_sign_20 (by decide) ?_
    exact h
set_option maxHeartbeats 4000000 in
set_option maxRecDepth 20000 in
theorem sgX5_sign_24 {g : GG} {d : Nat} {c n : Nat} {m : PM} {Q : Ou → PM → Nat → Nat → Prop} {x1 : Int32} {x2 : Int32} {s0 : Int32} (h : ((¬ (m.1 9 20 0 9) = 0 → Wq g (d + 1) MX5_sign c n 42 [some (pO 20 9 0), none, none, some (pI s0)] [pO 20 9 0] m Q) ∧ ((m.1 9 20 0 9) = 0 → (((¬ s0 < x1) ∧ (¬ x2 < s0) → Wq g (d + 1) MX5_sign c n 47 [some (pO 20 9 0), none, none, some (pI s0)] [pI 0, pO 20 9 0] m Q) ∧ (¬ ((¬ s0 < x1) ∧ (¬ x2 < s0)) → Wq g (d + 1) MX5_sign c n 42 [some (pO 20 9 0), none, none, some (pI s0)] [pO 20 9 0] m Q))))) : Wq g (d + 1) MX5_sign c n 24 [some (pO 20 9 0), some (pI x1), some (pI x2), none] [pI s0] m Q := by
  refine Wq.istore_n (ls2 := [some (pO 20 9 0), some (pI x1), some (pI x2), some (pI s0)]) dX5_sign_24 (by decide) rfl ?_
  refine Wq.aload_n (t := 20) (r := 9) (j := 0) dX5_sign_25 rfl ?_
  refine Wq.aload_n (t := 20) (r := 9) (j := 0) dX5_sign_26 rfl ?_
  refine Wq.getf (v := pI (m.1 9 20 0 9)) dX5_sign_27 fl_X5_153 ⟨rfl, rfl, by decide⟩ rfl ?_
  refine Wq.ifne (tgt := 42) dX5_sign_30 (by decide) (fun q1 => ?_) (fun q1 => ?_)
  · replace h := h.1 q1
    refine Wq.few (ls' := [some (pO 20 9 0), none, none, some (pI s0)]) ⟨rfl, ⟨rfl, trivial⟩⟩ ?_
    exact h
  · replace h := h.2 q1
    refine Wq.iload_n (x := s0) dX5_sign_33 rfl ?_
    refine Wq.iload_n (x := x1) dX5_sign_34 rfl ?_
    refine Wq.iload_n (x := x2) dX5_sign_35 rfl ?_
    refine Wq.callSI (As := [pI s0, pI x1, pI x2]) dX5_sign_36 fX5_in ml_X5_45 rfl (Nat.le_of_ble_eq_true rfl) (Nat.le_of_ble_eq_true rfl) (suX5_in trivial) (fun x3 m9 e9 => ?_)
    obtain ⟨rfl, rfl⟩ := e9
    refine Wq.ifne (tgt := 46) dX5_sign_39 (by decide) (fun q2 => ?_) (fun q2 => ?_)
    · replace h := h.1 (bI_1 q2)
      refine Wq.iconst (v := 0) dX5_sign_46 (by decide) ?_
      refine Wq.few (ls' := [some (pO 20 9 0), none, none, some (pI s0)]) ⟨rfl, ⟨rfl, trivial⟩⟩ ?_
      exact h
    · replace h := h.2 (bI_0 q2)
      refine Wq.few (ls' := [some (pO 20 9 0), none, none, some (pI s0)]) ⟨rfl, ⟨rfl, trivial⟩⟩ ?_
      exact h
set_option maxHeartbeats 4000000 in
set_option maxRecDepth 20000 in
theorem sgX5_sign_42 {g : GG} {d : Nat} {c n : Nat} {m : PM} {Q : Ou → PM → Nat → Nat → Prop} {x3 : Int32} (h : Wq g (d + 1) MX5_sign c n 47 [some (pO 20 9 0), none, none, some (pI x3)] [pI 1, pO 20 9 0] m Q) : Wq g (d + 1) MX5_sign c n 42 [some (pO 20 9 0), none, none, some (pI x3)] [pO 20 9 0] m Q := by
  refine Wq.iconst (v := 1) dX5_sign_42 (by decide) ?_
  refine Wq.goto (tgt := 47) dX5_sign_43 (by decide) ?_
  exact h
set_option maxHeartbeats 4000000 in
set_option maxRecDepth 20000 in
theorem sgX5_sign_47 {g : GG} {d : Nat} {c n : Nat} {m : PM} {Q : Ou → PM → Nat → Nat → Prop} {x3 : Int32} {s0 : Int32} (h : ((s0 = 0 ∨ s0 = 1) ∧ ((((setI m 20 9 0 9 s0).1 9 20 0 9) = 0 → Wq g (d + 1) MX5_sign c n 67 [none, none, none, some (pI x3)] [pI 1, pI ((setI m 20 9 0 9 s0).1 9 20 0 8), pO 20 9 0] (setI m 20 9 0 9 s0) Q) ∧ (¬ ((setI m 20 9 0 9 s0).1 9 20 0 9) = 0 → Wq g (d + 1) MX5_sign c n 67 [none, none, none, some (pI x3)] [pI 0, pI ((setI m 20 9 0 9 s0).1 9 20 0 8), pO 20 9 0] (setI m 20 9 0 9 s0) Q)))) : Wq g (d + 1) MX5_sign c n 47 [some (pO 20 9 0), none, none, some (pI x3)] [pI s0, pO 20 9 0] m Q := by
  refine Wq.putI dX5_sign_47 fw_X5_153 ⟨rfl, rfl, by decide⟩ ⟨rfl, by decide, by decide⟩ ⟨z_narrow h.1, z_fits h.1⟩ ?_
  replace h := h.2
  refine Wq.aload_n (t := 20) (r := 9) (j := 0) dX5_sign_50 rfl ?_
  refine Wq.dup dX5_sign_51 rfl ?_
  refine Wq.getf (v := pI ((setI m 20 9 0 9 s0).1 9 20 0 8)) dX5_sign_52 fl_X5_150 ⟨rfl, rfl, by decide⟩ rfl ?_
  refine Wq.aload_n (t := 20) (r := 9) (j := 0) dX5_sign_55 rfl ?_
  refine Wq.getf (v := pI ((setI m 20 9 0 9 s0).1 9 20 0 9)) dX5_sign_56 fl_X5_153 ⟨rfl, rfl, by decide⟩ rfl ?_
  refine Wq.ifeq (tgt := 66) dX5_sign_59 (by decide) (fun q1 => ?_) (fun q1 => ?_)
  · replace h := h.1 q1
    refine Wq.iconst (v := 1) dX5_sign_66 (by decide) ?_
    refine Wq.few (ls' := [none, none, none, some (pI x3)]) ⟨rfl, trivial⟩ ?_
    exact h
  · replace h := h.2 q1
    refine Wq.iconst (v := 0) dX5_sign_62 (by decide) ?_
    refine Wq.goto (tgt := 67) dX5_sign_63 (by decide) ?_
    refine Wq.few (ls' := [none, none, none, some (pI x3)]) ⟨rfl, trivial⟩ ?_
    exact h
set_option maxHeartbeats 4000000 in
set_option maxRecDepth 20000 in
theorem sgX5_sign_67 {g : GG} {d : Nat} {c n : Nat} {m : PM} {Q : Ou → PM → Nat → Nat → Prop} {x3 : Int32} {s0 : Int32} {s1 : Int32} (h : Q (.inl (some (pI x3))) (setI m 20 9 0 8 (s1 + s0)) c n) : Wq g (d + 1) MX5_sign c n 67 [none, none, none, some (pI x3)] [pI s0, pI s1, pO 20 9 0] m Q := by
  refine Wq.iadd dX5_sign_67 ?_
  refine Wq.putI dX5_sign_68 fw_X5_150 ⟨rfl, rfl, by decide⟩ ⟨rfl, by decide, by decide⟩ ⟨rfl, rfl⟩ ?_
  refine Wq.iload_n (x := x3) dX5_sign_71 rfl ?_
  exact Wq.iret dX5_sign_72 (⟨_, rfl, rfl⟩) h
set_option maxHeartbeats 4000000 in
set_option maxRecDepth 20000 in
theorem sgX5_undo {g : GG} {d : Nat} {c n : Nat} {m : PM} {Q : Ou → PM → Nat → Nat → Prop}  (h : (((m.1 9 20 0 4) ≤ 0 → Q (.inl (some (pI 0))) (setI m 20 9 0 0 1) c n) ∧ (¬ (m.1 9 20 0 4) ≤ 0 → Wq g (d + 1) MX5_undo c n 33 [some (pO 20 9 0), some (pI 0)] [] (setI (setI m 20 9 0 0 0) 20 9 0 4 (((setI m 20 9 0 0 0).1 9 20 0 4) - 1)) Q))) : Wq g (d + 1) MX5_undo c n 0 [some (pO 20 9 0)] [] m Q := by
  refine Wq.few (ls' := [some (pO 20 9 0), none]) ⟨rfl, trivial⟩ ?_
  refine Wq.aload_n (t := 20) (r := 9) (j := 0) dX5_undo_0 rfl ?_
  refine Wq.aload_n (t := 20) (r := 9) (j := 0) dX5_undo_1 rfl ?_
  refine Wq.getf (v := pI (m.1 9 20 0 4)) dX5_undo_2 fl_X5_49 ⟨rfl, rfl, by decide⟩ rfl ?_
  refine Wq.ifle (tgt := 12) dX5_undo_5 (by decide) (fun q1 => ?_) (fun q1 => ?_)
  · replace h := h.1 q1
    refine Wq.iconst (v := 1) dX5_undo_12 (by decide) ?_
    refine Wq.callVI (As := [pI 1]) dX5_undo_13 fX5_holds ml_X5_86 rfl (by decide) rfl (Nat.le_of_ble_eq_true rfl) (Nat.le_of_ble_eq_true rfl) ?_ (fun _ _ h9 => h9)
    refine Wq.few (ls' := [some (pO 20 9 0), some (pI 1)]) ⟨rfl, ⟨rfl, trivial⟩⟩ ?_
    refine Wq.aload_n (t := 20) (r := 9) (j := 0) dX5_holds_0 rfl ?_
    refine Wq.iload_n (x := 1) dX5_holds_1 rfl ?_
    refine Wq.putI dX5_holds_2 fw_X5_41 ⟨rfl, rfl, by decide⟩ ⟨rfl, by decide, by decide⟩ ⟨rfl, rfl⟩ ?_
    refine Wq.iload_n (x := 1) dX5_holds_5 rfl ?_
    refine Wq.ifne (tgt := 13) dX5_holds_6 (by decide) (fun _ => ?_) (fun q9 => absurd q9 (by decide))
    refine Wq.iconst (v := 0) dX5_holds_13 (by decide) ?_
    refine Wq.iretI dX5_holds_14 (⟨_, rfl, by decide⟩) ?_
    refine Wq.ifne (tgt := 21) dX5_undo_16 (by decide) (fun q9 => absurd q9 (by decide)) (fun _ => ?_)
    refine Wq.iconst (v := 0) dX5_undo_19 (by decide) ?_
    exact Wq.iret dX5_undo_20 (⟨_, rfl, rfl⟩) h
  · replace h := h.2 q1
    refine Wq.iconst (v := 0) dX5_undo_8 (by decide) ?_
    refine Wq.goto (tgt := 13) dX5_undo_9 (by decide) ?_
    refine Wq.callVI (As := [pI 0]) dX5_undo_13 fX5_holds ml_X5_86 rfl (by decide) rfl (Nat.le_of_ble_eq_true rfl) (Nat.le_of_ble_eq_true rfl) ?_ (fun _ _ h9 => h9)
    refine Wq.few (ls' := [some (pO 20 9 0), some (pI 0)]) ⟨rfl, ⟨rfl, trivial⟩⟩ ?_
    refine Wq.aload_n (t := 20) (r := 9) (j := 0) dX5_holds_0 rfl ?_
    refine Wq.iload_n (x := 0) dX5_holds_1 rfl ?_
    refine Wq.putI dX5_holds_2 fw_X5_41 ⟨rfl, rfl, by decide⟩ ⟨rfl, by decide, by decide⟩ ⟨rfl, rfl⟩ ?_
    refine Wq.iload_n (x := 0) dX5_holds_5 rfl ?_
    refine Wq.ifne (tgt := 13) dX5_holds_6 (by decide) (fun q9 => absurd q9 (by decide)) (fun _ => ?_)
    refine Wq.iconst (v := 1) dX5_holds_9 (by decide) ?_
    refine Wq.goto (tgt := 14) dX5_holds_10 (by decide) ?_
    refine Wq.iretI dX5_holds_14 (⟨_, rfl, by decide⟩) ?_
    refine Wq.ifne (tgt := 21) dX5_undo_16 (by decide) (fun _ => ?_) (fun q9 => absurd q9 (by decide))
    refine Wq.aload_n (t := 20) (r := 9) (j := 0) dX5_undo_21 rfl ?_
    refine Wq.dup dX5_undo_22 rfl ?_
    refine Wq.getf (v := pI ((setI m 20 9 0 0 0).1 9 20 0 4)) dX5_undo_23 fl_X5_49 ⟨rfl, rfl, by decide⟩ rfl ?_
    refine Wq.iconst (v := 1) dX5_undo_26 (by decide) ?_
    refine Wq.isub dX5_undo_27 ?_
    refine Wq.putI dX5_undo_28 fw_X5_49 ⟨rfl, rfl, by decide⟩ ⟨rfl, by decide, by decide⟩ ⟨rfl, rfl⟩ ?_
    refine Wq.iconst (v := 0) dX5_undo_31 (by decide) ?_
    refine Wq.istore_n (ls2 := [some (pO 20 9 0), some (pI 0)]) dX5_undo_32 (by decide) rfl ?_
    exact h
set_option maxHeartbeats 4000000 in
set_option maxRecDepth 20000 in
theorem sgX5_undo_33 {g : GG} {d : Nat} {c n : Nat} {m : PM} {Q : Ou → PM → Nat → Nat → Prop} {x1 : Int32} (h : ((341 ≤ x1 → Q (.inl (some (pI (m.1 9 20 0 4)))) m c n) ∧ (¬ 341 ≤ x1 → (vp_in ((341 * (m.1 9 20 0 4)) + x1) 2046 ∧ (vp_in x1 341 ∧ Wq g (d + 1) MX5_undo c n 33 [some (pO 20 9 0), some (pI (x1 + 1))] [] (setI m 21 9 0 (ix x1) (m.1 9 23 0 (ix ((341 * (m.1 9 20 0 4)) + x1)))) Q))))) : Wq g (d + 1) MX5_undo c n 33 [some (pO 20 9 0), some (pI x1)] [] m Q := by
  refine Wq.iload_n (x := x1) dX5_undo_33 rfl ?_
  refine Wq.sipush (v := 341) dX5_undo_34 (by decide) ?_
  refine Wq.icmpge (tgt := 67) dX5_undo_37 (by decide) (fun q1 => ?_) (fun q1 => ?_)
  · replace h := h.1 q1
    refine Wq.aload_n (t := 20) (r := 9) (j := 0) dX5_undo_67 rfl ?_
    refine Wq.getf (v := pI (m.1 9 20 0 4)) dX5_undo_68 fl_X5_49 ⟨rfl, rfl, by decide⟩ rfl ?_
    exact Wq.iret dX5_undo_71 (⟨_, rfl, rfl⟩) h
  · replace h := h.2 q1
    refine Wq.aload_n (t := 20) (r := 9) (j := 0) dX5_undo_40 rfl ?_
    refine Wq.getf (v := pO 21 9 0) dX5_undo_41 fl_X5_7 ⟨rfl, rfl, by decide⟩ rfl ?_
    refine Wq.iload_n (x := x1) dX5_undo_44 rfl ?_
    refine Wq.aload_n (t := 20) (r := 9) (j := 0) dX5_undo_45 rfl ?_
    refine Wq.getf (v := pO 23 9 0) dX5_undo_46 fl_X5_16 ⟨rfl, rfl, by decide⟩ rfl ?_
    refine Wq.sipush (v := 341) dX5_undo_49 (by decide) ?_
    refine Wq.aload_n (t := 20) (r := 9) (j := 0) dX5_undo_52 rfl ?_
    refine Wq.getf (v := pI (m.1 9 20 0 4)) dX5_undo_53 fl_X5_49 ⟨rfl, rfl, by decide⟩ rfl ?_
    refine Wq.imul dX5_undo_56 ?_
    refine Wq.iload_n (x := x1) dX5_undo_57 rfl ?_
    refine Wq.iadd dX5_undo_58 ?_
    refine Wq.iald dX5_undo_59 rfl h.1 ?_
    replace h := h.2
    refine Wq.iast dX5_undo_60 rfl h.1 ?_
    replace h := h.2
    refine Wq.iinc (x := x1) (ls2 := [some (pO 20 9 0), some (pI (x1 + 1))]) dX5_undo_61 rfl (by decide) rfl ?_
    refine Wq.goto (tgt := 33) dX5_undo_64 (by decide) ?_
    exact h
set_option maxHeartbeats 4000000 in
set_option maxRecDepth 20000 in
theorem sgX5_examinerOf_ {g : GG} {d : Nat} {c n : Nat} {m : PM} {Q : Ou → PM → Nat → Nat → Prop} {x1 : Int32} {x2 : Int32} (h : ((2 ≤ x2 → ((¬ x2 = 2 → ((¬ x2 = 3 → (vp_in ((169 + (7 * x1)) + (x2 - 2)) 341 ∧ Q (.inl (some (pI (m.1 9 21 0 (ix ((169 + (7 * x1)) + (x2 - 2))))))) m c n)) ∧ (x2 = 3 → Wp g d MX5_slotsOf 0 [some (pO 20 9 0), some (pI x1), some (pI (-2))] [] m (cI fun r5 m6 => Q (.inl (some (pI r5))) m6 c n)))) ∧ (x2 = 2 → Wp g d MX5_slotsOf 0 [some (pO 20 9 0), some (pI x1), some (pI (-1))] [] m (cI fun r7 m8 => Q (.inl (some (pI r7))) m8 c n)))) ∧ (¬ 2 ≤ x2 → (vp_in ((169 + (7 * x1)) + x2) 341 ∧ Q (.inl (some (pI (m.1 9 21 0 (ix ((169 + (7 * x1)) + x2)))))) m c n)))) : Wq g (d + 1) MX5_examinerOf_ c n 0 [some (pO 20 9 0), some (pI x1), some (pI x2)] [] m Q := by
  refine Wq.few (ls' := [some (pO 20 9 0), some (pI x1), some (pI x2)]) ⟨rfl, ⟨rfl, ⟨rfl, trivial⟩⟩⟩ ?_
  refine Wq.iload_n (x := x2) dX5_examinerOf__0 rfl ?_
  refine Wq.iconst (v := 2) dX5_examinerOf__1 (by decide) ?_
  refine Wq.icmpge (tgt := 18) dX5_examinerOf__2 (by decide) (fun q1 => ?_) (fun q1 => ?_)
  · replace h := h.1 q1
    refine Wq.iload_n (x := x2) dX5_examinerOf__18 rfl ?_
    refine Wq.iconst (v := 2) dX5_examinerOf__19 (by decide) ?_
    refine Wq.icmpne (tgt := 32) dX5_examinerOf__20 (by decide) (fun q2 => ?_) (fun q2 => ?_)
    · replace h := h.1 q2
      refine Wq.iload_n (x := x2) dX5_examinerOf__32 rfl ?_
      refine Wq.iconst (v := 3) dX5_examinerOf__33 (by decide) ?_
      refine Wq.icmpne (tgt := 47) dX5_examinerOf__34 (by decide) (fun q3 => ?_) (fun q3 => ?_)
      · replace h := h.1 q3
        refine Wq.aload_n (t := 20) (r := 9) (j := 0) dX5_examinerOf__47 rfl ?_
        refine Wq.getf (v := pO 21 9 0) dX5_examinerOf__48 fl_X5_7 ⟨rfl, rfl, by decide⟩ rfl ?_
        refine Wq.iload_n (x := x1) dX5_examinerOf__51 rfl ?_
        refine Wq.iload_n (x := x2) dX5_examinerOf__52 rfl ?_
        refine Wq.iconst (v := 2) dX5_examinerOf__53 (by decide) ?_
        refine Wq.isub dX5_examinerOf__54 ?_
        refine Wq.callSI (As := [pI x1, pI (x2 - 2)]) dX5_examinerOf__55 fX5_ofExaminer ml_X5_93 rfl (Nat.le_of_ble_eq_true rfl) (Nat.le_of_ble_eq_true rfl) (suX5_ofExaminer trivial) (fun x4 m9 e9 => ?_)
        obtain ⟨rfl, rfl⟩ := e9
        refine Wq.iald dX5_examinerOf__58 rfl h.1 ?_
        replace h := h.2
        exact Wq.iret dX5_examinerOf__59 (⟨_, rfl, rfl⟩) h
      · replace h := h.2 q3
        refine Wq.aload_n (t := 20) (r := 9) (j := 0) dX5_examinerOf__37 rfl ?_
        refine Wq.iload_n (x := x1) dX5_examinerOf__38 rfl ?_
        refine Wq.bipush (v := (-2)) dX5_examinerOf__39 (by decide) ?_
        refine Wq.callVI (As := [pI x1, pI (-2)]) dX5_examinerOf__41 fX5_slotsOf ml_X5_183 rfl (by decide) rfl (Nat.le_of_ble_eq_true rfl) (Nat.le_of_ble_eq_true rfl) h (fun r5 m6 h => ?_)
        refine Wq.goto (tgt := 59) dX5_examinerOf__44 (by decide) ?_
        exact Wq.iret dX5_examinerOf__59 (⟨_, rfl, rfl⟩) h
    · replace h := h.2 q2
      refine Wq.aload_n (t := 20) (r := 9) (j := 0) dX5_examinerOf__23 rfl ?_
      refine Wq.iload_n (x := x1) dX5_examinerOf__24 rfl ?_
      refine Wq.iconst (v := (-1)) dX5_examinerOf__25 (by decide) ?_
      refine Wq.callVI (As := [pI x1, pI (-1)]) dX5_examinerOf__26 fX5_slotsOf ml_X5_183 rfl (by decide) rfl (Nat.le_of_ble_eq_true rfl) (Nat.le_of_ble_eq_true rfl) h (fun r7 m8 h => ?_)
      refine Wq.goto (tgt := 59) dX5_examinerOf__29 (by decide) ?_
      exact Wq.iret dX5_examinerOf__59 (⟨_, rfl, rfl⟩) h
  · replace h := h.2 q1
    refine Wq.aload_n (t := 20) (r := 9) (j := 0) dX5_examinerOf__5 rfl ?_
    refine Wq.getf (v := pO 21 9 0) dX5_examinerOf__6 fl_X5_7 ⟨rfl, rfl, by decide⟩ rfl ?_
    refine Wq.iload_n (x := x1) dX5_examinerOf__9 rfl ?_
    refine Wq.iload_n (x := x2) dX5_examinerOf__10 rfl ?_
    refine Wq.callSI (As := [pI x1, pI x2]) dX5_examinerOf__11 fX5_ofExaminer ml_X5_93 rfl (Nat.le_of_ble_eq_true rfl) (Nat.le_of_ble_eq_true rfl) (suX5_ofExaminer trivial) (fun x9 m9 e9 => ?_)
    obtain ⟨rfl, rfl⟩ := e9
    refine Wq.iald dX5_examinerOf__14 rfl h.1 ?_
    replace h := h.2
    refine Wq.goto (tgt := 59) dX5_examinerOf__15 (by decide) ?_
    exact Wq.iret dX5_examinerOf__59 (⟨_, rfl, rfl⟩) h
set_option maxHeartbeats 4000000 in
set_option maxRecDepth 20000 in
theorem sgX5_stages {g : GG} {d : Nat} {c n : Nat} {m : PM} {Q : Ou → PM → Nat → Nat → Prop} {x1 : Int32} (h : Wq g (d + 1) MX5_stages c n 4 [some (pO 20 9 0), some (pI x1), some (pI 0), some (pI 0)] [] m Q) : Wq g (d + 1) MX5_stages c n 0 [some (pO 20 9 0), some (pI x1)] [] m Q := by
  refine Wq.few (ls' := [some (pO 20 9 0), some (pI x1), none, none]) ⟨rfl, ⟨rfl, trivial⟩⟩ ?_
  refine Wq.iconst (v := 0) dX5_stages_0 (by decide) ?_
  refine Wq.istore_n (ls2 := [some (pO 20 9 0), some (pI x1), some (pI 0), none]) dX5_stages_1 (by decide) rfl ?_
  refine Wq.iconst (v := 0) dX5_stages_2 (by decide) ?_
  refine Wq.istore_n (ls2 := [some (pO 20 9 0), some (pI x1), some (pI 0), some (pI 0)]) dX5_stages_3 (by decide) rfl ?_
  exact h
set_option maxHeartbeats 4000000 in
set_option maxRecDepth 20000 in
theorem sgX5_stages_4 {g : GG} {d : Nat} {c n : Nat} {m : PM} {Q : Ou → PM → Nat → Nat → Prop} {x1 : Int32} {x2 : Int32} {x3 : Int32} (h : (((m.1 9 21 0 (ix 2)) ≤ x3 → Q (.inl (some (pI x2))) m c n) ∧ (¬ (m.1 9 21 0 (ix 2)) ≤ x3 → (vp_in ((197 + (12 * x3)) + (0 : Int32)) 341 ∧ ((¬ (m.1 9 21 0 (ix ((197 + (12 * x3)) + (0 : Int32)))) = x1 → Wq g (d + 1) MX5_stages c n 4 [some (pO 20 9 0), some (pI x1), some (pI (x2 + 0)), some (pI (x3 + 1))] [] m Q) ∧ ((m.1 9 21 0 (ix ((197 + (12 * x3)) + (0 : Int32)))) = x1 → Wq g (d + 1) MX5_stages c n 4 [some (pO 20 9 0), some (pI x1), some (pI (x2 + 1)), some (pI (x3 + 1))] [] m Q)))))) : Wq g (d + 1) MX5_stages c n 4 [some (pO 20 9 0), some (pI x1), some (pI x2), some (pI x3)] [] m Q := by
  refine Wq.iload_n (x := x3) dX5_stages_4 rfl ?_
  refine Wq.aload_n (t := 20) (r := 9) (j := 0) dX5_stages_5 rfl ?_
  refine Wq.getf (v := pO 21 9 0) dX5_stages_6 fl_X5_7 ⟨rfl, rfl, by decide⟩ rfl ?_
  refine Wq.iconst (v := 2) dX5_stages_9 (by decide) ?_
  refine Wq.iald dX5_stages_10 rfl (vp_dec rfl) ?_
  refine Wq.icmpge (tgt := 42) dX5_stages_11 (by decide) (fun q1 => ?_) (fun q1 => ?_)
  · replace h := h.1 q1
    refine Wq.iload_n (x := x2) dX5_stages_42 rfl ?_
    exact Wq.iret dX5_stages_43 (⟨_, rfl, rfl⟩) h
  · replace h := h.2 q1
    refine Wq.iload_n (x := x2) dX5_stages_14 rfl ?_
    refine Wq.aload_n (t := 20) (r := 9) (j := 0) dX5_stages_15 rfl ?_
    refine Wq.getf (v := pO 21 9 0) dX5_stages_16 fl_X5_7 ⟨rfl, rfl, by decide⟩ rfl ?_
    refine Wq.iload_n (x := x3) dX5_stages_19 rfl ?_
    refine Wq.iconst (v := 0) dX5_stages_20 (by decide) ?_
    refine Wq.callSI (As := [pI x3, pI 0]) dX5_stages_21 fX5_of ml_X5_69 rfl (Nat.le_of_ble_eq_true rfl) (Nat.le_of_ble_eq_true rfl) (suX5_of trivial) (fun x3 m9 e9 => ?_)
    obtain ⟨rfl, rfl⟩ := e9
    refine Wq.iald dX5_stages_24 rfl h.1 ?_
    replace h := h.2
    refine Wq.iload_n (x := x1) dX5_stages_25 rfl ?_
    refine Wq.icmpne (tgt := 33) dX5_stages_26 (by decide) (fun q2 => ?_) (fun q2 => ?_)
    · replace h := h.1 q2
      refine Wq.iconst (v := 0) dX5_stages_33 (by decide) ?_
      refine Wq.iadd dX5_stages_34 ?_
      refine Wq.istore_n (ls2 := [some (pO 20 9 0), some (pI x1), some (pI (x2 + 0)), some (pI x3)]) dX5_stages_35 (by decide) rfl ?_
      refine Wq.iinc (x := x3) (ls2 := [some (pO 20 9 0), some (pI x1), some (pI (x2 + 0)), some (pI (x3 + 1))]) dX5_stages_36 rfl (by decide) rfl ?_
      refine Wq.goto (tgt := 4) dX5_stages_39 (by decide) ?_
      exact h
    · replace h := h.2 q2
      refine Wq.iconst (v := 1) dX5_stages_29 (by decide) ?_
      refine Wq.goto (tgt := 34) dX5_stages_30 (by decide) ?_
      refine Wq.iadd dX5_stages_34 ?_
      refine Wq.istore_n (ls2 := [some (pO 20 9 0), some (pI x1), some (pI (x2 + 1)), some (pI x3)]) dX5_stages_35 (by decide) rfl ?_
      refine Wq.iinc (x := x3) (ls2 := [some (pO 20 9 0), some (pI x1), some (pI (x2 + 1)), some (pI (x3 + 1))]) dX5_stages_36 rfl (by decide) rfl ?_
      refine Wq.goto (tgt := 4) dX5_stages_39 (by decide) ?_
      exact h
set_option maxHeartbeats 4000000 in
set_option maxRecDepth 20000 in
theorem sgX5_sumOfPupils {g : GG} {d : Nat} {c n : Nat} {m : PM} {Q : Ou → PM → Nat → Nat → Prop} {x1 : Int32} (h : Wq g (d + 1) MX5_sumOfPupils c n 4 [some (pO 20 9 0), some (pI x1), some (pI 0), some (pI 0)] [] m Q) : Wq g (d + 1) MX5_sumOfPupils c n 0 [some (pO 20 9 0), some (pI x1)] [] m Q := by
  refine Wq.few (ls' := [some (pO 20 9 0), some (pI x1), none, none]) ⟨rfl, ⟨rfl, trivial⟩⟩ ?_
  refine Wq.iconst (v := 0) dX5_sumOfPupils_0 (by decide) ?_
  refine Wq.istore_n (ls2 := [some (pO 20 9 0), some (pI x1), some (pI 0), none]) dX5_sumOfPupils_1 (by decide) rfl ?_
  refine Wq.iconst (v := 0) dX5_sumOfPupils_2 (by decide) ?_
  refine Wq.istore_n (ls2 := [some (pO 20 9 0), some (pI x1), some (pI 0), some (pI 0)]) dX5_sumOfPupils_3 (by decide) rfl ?_
  exact h
set_option maxHeartbeats 4000000 in
set_option maxRecDepth 20000 in
theorem sgX5_sumOfPupils_4 {g : GG} {d : Nat} {c n : Nat} {m : PM} {Q : Ou → PM → Nat → Nat → Prop} {x1 : Int32} {x2 : Int32} {x3 : Int32} (h : (((m.1 9 21 0 (ix 2)) ≤ x3 → Q (.inl (some (pI x2))) m c n) ∧ (¬ (m.1 9 21 0 (ix 2)) ≤ x3 → (vp_in ((197 + (12 * x3)) + x1) 341 ∧ Wq g (d + 1) MX5_sumOfPupils c n 4 [some (pO 20 9 0), some (pI x1), some (pI (x2 + (m.1 9 21 0 (ix ((197 + (12 * x3)) + x1))))), some (pI (x3 + 1))] [] m Q)))) : Wq g (d + 1) MX5_sumOfPupils c n 4 [some (pO 20 9 0), some (pI x1), some (pI x2), some (pI x3)] [] m Q := by
  refine Wq.iload_n (x := x3) dX5_sumOfPupils_4 rfl ?_
  refine Wq.aload_n (t := 20) (r := 9) (j := 0) dX5_sumOfPupils_5 rfl ?_
  refine Wq.getf (v := pO 21 9 0) dX5_sumOfPupils_6 fl_X5_7 ⟨rfl, rfl, by decide⟩ rfl ?_
  refine Wq.iconst (v := 2) dX5_sumOfPupils_9 (by decide) ?_
  refine Wq.iald dX5_sumOfPupils_10 rfl (vp_dec rfl) ?_
  refine Wq.icmpge (tgt := 33) dX5_sumOfPupils_11 (by decide) (fun q1 => ?_) (fun q1 => ?_)
  · replace h := h.1 q1
    refine Wq.iload_n (x := x2) dX5_sumOfPupils_33 rfl ?_
    exact Wq.iret dX5_sumOfPupils_34 (⟨_, rfl, rfl⟩) h
  · replace h := h.2 q1
    refine Wq.iload_n (x := x2) dX5_sumOfPupils_14 rfl ?_
    refine Wq.aload_n (t := 20) (r := 9) (j := 0) dX5_sumOfPupils_15 rfl ?_
    refine Wq.getf (v := pO 21 9 0) dX5_sumOfPupils_16 fl_X5_7 ⟨rfl, rfl, by decide⟩ rfl ?_
    refine Wq.iload_n (x := x3) dX5_sumOfPupils_19 rfl ?_
    refine Wq.iload_n (x := x1) dX5_sumOfPupils_20 rfl ?_
    refine Wq.callSI (As := [pI x3, pI x1]) dX5_sumOfPupils_21 fX5_of ml_X5_69 rfl (Nat.le_of_ble_eq_true rfl) (Nat.le_of_ble_eq_true rfl) (suX5_of trivial) (fun x2 m9 e9 => ?_)
    obtain ⟨rfl, rfl⟩ := e9
    refine Wq.iald dX5_sumOfPupils_24 rfl h.1 ?_
    replace h := h.2
    refine Wq.iadd dX5_sumOfPupils_25 ?_
    refine Wq.istore_n (ls2 := [some (pO 20 9 0), some (pI x1), some (pI (x2 + (m.1 9 21 0 (ix ((197 + (12 * x3)) + x1))))), some (pI x3)]) dX5_sumOfPupils_26 (by decide) rfl ?_
    refine Wq.iinc (x := x3) (ls2 := [some (pO 20 9 0), some (pI x1), some (pI (x2 + (m.1 9 21 0 (ix ((197 + (12 * x3)) + x1))))), some (pI (x3 + 1))]) dX5_sumOfPupils_27 rfl (by decide) rfl ?_
    refine Wq.goto (tgt := 4) dX5_sumOfPupils_30 (by decide) ?_
    exact h
set_option maxHeartbeats 4000000 in
set_option maxRecDepth 20000 in
theorem sgX5_setting {g : GG} {d : Nat} {c n : Nat} {m : PM} {Q : Ou → PM → Nat → Nat → Prop} {x1 : Int32} (h : ((¬ ((¬ x1 < (0 : Int32)) ∧ (¬ (3 : Int32) < x1)) → Q (.inl (some (pI 0))) (setI m 20 9 0 0 1) c n) ∧ ((¬ x1 < (0 : Int32)) ∧ (¬ (3 : Int32) < x1) → (vp_in (5 + x1) 341 ∧ Q (.inl (some (pI ((setI m 20 9 0 0 0).1 9 21 0 (ix (5 + x1)))))) (setI m 20 9 0 0 0) c n)))) : Wq g (d + 1) MX5_setting c n 0 [some (pO 20 9 0), some (pI x1)] [] m Q := by
  refine Wq.few (ls' := [some (pO 20 9 0), some (pI x1)]) ⟨rfl, ⟨rfl, trivial⟩⟩ ?_
  refine Wq.aload_n (t := 20) (r := 9) (j := 0) dX5_setting_0 rfl ?_
  refine Wq.iload_n (x := x1) dX5_setting_1 rfl ?_
  refine Wq.iconst (v := 0) dX5_setting_2 (by decide) ?_
  refine Wq.iconst (v := 3) dX5_setting_3 (by decide) ?_
  refine Wq.callSI (As := [pI x1, pI 0, pI 3]) dX5_setting_4 fX5_in ml_X5_45 rfl (Nat.le_of_ble_eq_true rfl) (Nat.le_of_ble_eq_true rfl) (suX5_in trivial) (fun x2 m9 e9 => ?_)
  obtain ⟨rfl, rfl⟩ := e9
  refine Wq.ifeq (tgt := 14) dX5_setting_7 (by decide) (fun q1 => ?_) (fun q1 => ?_)
  · replace h := h.1 (bI_0 q1)
    refine Wq.iconst (v := 1) dX5_setting_14 (by decide) ?_
    refine Wq.callVI (As := [pI 1]) dX5_setting_15 fX5_holds ml_X5_86 rfl (by decide) rfl (Nat.le_of_ble_eq_true rfl) (Nat.le_of_ble_eq_true rfl) ?_ (fun _ _ h9 => h9)
    refine Wq.few (ls' := [some (pO 20 9 0), some (pI 1)]) ⟨rfl, ⟨rfl, trivial⟩⟩ ?_
    refine Wq.aload_n (t := 20) (r := 9) (j := 0) dX5_holds_0 rfl ?_
    refine Wq.iload_n (x := 1) dX5_holds_1 rfl ?_
    refine Wq.putI dX5_holds_2 fw_X5_41 ⟨rfl, rfl, by decide⟩ ⟨rfl, by decide, by decide⟩ ⟨rfl, rfl⟩ ?_
    refine Wq.iload_n (x := 1) dX5_holds_5 rfl ?_
    refine Wq.ifne (tgt := 13) dX5_holds_6 (by decide) (fun _ => ?_) (fun q9 => absurd q9 (by decide))
    refine Wq.iconst (v := 0) dX5_holds_13 (by decide) ?_
    refine Wq.iretI dX5_holds_14 (⟨_, rfl, by decide⟩) ?_
    refine Wq.ifeq (tgt := 32) dX5_setting_18 (by decide) (fun _ => ?_) (fun q9 => absurd q9 (by decide))
    refine Wq.iconst (v := 0) dX5_setting_32 (by decide) ?_
    exact Wq.iret dX5_setting_33 (⟨_, rfl, rfl⟩) h
  · replace h := h.2 (bI_1 q1)
    refine Wq.iconst (v := 0) dX5_setting_10 (by decide) ?_
    refine Wq.goto (tgt := 15) dX5_setting_11 (by decide) ?_
    refine Wq.callVI (As := [pI 0]) dX5_setting_15 fX5_holds ml_X5_86 rfl (by decide) rfl (Nat.le_of_ble_eq_true rfl) (Nat.le_of_ble_eq_true rfl) ?_ (fun _ _ h9 => h9)
    refine Wq.few (ls' := [some (pO 20 9 0), some (pI 0)]) ⟨rfl, ⟨rfl, trivial⟩⟩ ?_
    refine Wq.aload_n (t := 20) (r := 9) (j := 0) dX5_holds_0 rfl ?_
    refine Wq.iload_n (x := 0) dX5_holds_1 rfl ?_
    refine Wq.putI dX5_holds_2 fw_X5_41 ⟨rfl, rfl, by decide⟩ ⟨rfl, by decide, by decide⟩ ⟨rfl, rfl⟩ ?_
    refine Wq.iload_n (x := 0) dX5_holds_5 rfl ?_
    refine Wq.ifne (tgt := 13) dX5_holds_6 (by decide) (fun q9 => absurd q9 (by decide)) (fun _ => ?_)
    refine Wq.iconst (v := 1) dX5_holds_9 (by decide) ?_
    refine Wq.goto (tgt := 14) dX5_holds_10 (by decide) ?_
    refine Wq.iretI dX5_holds_14 (⟨_, rfl, by decide⟩) ?_
    refine Wq.ifeq (tgt := 32) dX5_setting_18 (by decide) (fun q9 => absurd q9 (by decide)) (fun _ => ?_)
    refine Wq.aload_n (t := 20) (r := 9) (j := 0) dX5_setting_21 rfl ?_
    refine Wq.getf (v := pO 21 9 0) dX5_setting_22 fl_X5_7 ⟨rfl, rfl, by decide⟩ rfl ?_
    refine Wq.iconst (v := 5) dX5_setting_25 (by decide) ?_
    refine Wq.iload_n (x := x1) dX5_setting_26 rfl ?_
    refine Wq.iadd dX5_setting_27 ?_
    refine Wq.iald dX5_setting_28 rfl h.1 ?_
    replace h := h.2
    refine Wq.goto (tgt := 33) dX5_setting_29 (by decide) ?_
    exact Wq.iret dX5_setting_33 (⟨_, rfl, rfl⟩) h
set_option maxHeartbeats 4000000 in
set_option maxRecDepth 20000 in
theorem sgX5_slotBy {g : GG} {d : Nat} {c n : Nat} {m : PM} {Q : Ou → PM → Nat → Nat → Prop} {x1 : Int32} (h : Wq g (d + 2) MX5_slotBy c n 2 [some (pO 20 9 0), some (pI x1), some (pI 0)] [] m Q) : Wq g (d + 2) MX5_slotBy c n 0 [some (pO 20 9 0), some (pI x1)] [] m Q := by
  refine Wq.few (ls' := [some (pO 20 9 0), some (pI x1), none]) ⟨rfl, ⟨rfl, trivial⟩⟩ ?_
  refine Wq.iconst (v := 0) dX5_slotBy_0 (by decide) ?_
  refine Wq.istore_n (ls2 := [some (pO 20 9 0), some (pI x1), some (pI 0)]) dX5_slotBy_1 (by decide) rfl ?_
  exact h
set_option maxHeartbeats 4000000 in
set_option maxRecDepth 20000 in
theorem sgX5_slotBy_2 {g : GG} {d : Nat} {c n : Nat} {m : PM} {Q : Ou → PM → Nat → Nat → Prop} {x1 : Int32} {x2 : Int32} (h : ((160 ≤ x2 → Q (.inl (some (pI (-1)))) m c n) ∧ (¬ 160 ≤ x2 → (((m.1 9 21 0 (ix 1)) ≤ (irm x2 4) → Wq g (d + 2) MX5_slotBy c n 2 [some (pO 20 9 0), some (pI x1), some (pI (x2 + 1))] [] m Q) ∧ (¬ (m.1 9 21 0 (ix 1)) ≤ (irm x2 4) → (vp_in (((9 + (40 * (irm x2 4))) + (4 * (x2 / 16))) + (irm (x2 / 4) 4)) 341 ∧ ((¬ (m.1 9 21 0 (ix (((9 + (40 * (irm x2 4))) + (4 * (x2 / 16))) + (irm (x2 / 4) 4)))) = x1 → Wq g (d + 2) MX5_slotBy c n 2 [some (pO 20 9 0), some (pI x1), some (pI (x2 + 1))] [] m Q) ∧ ((m.1 9 21 0 (ix (((9 + (40 * (irm x2 4))) + (4 * (x2 / 16))) + (irm (x2 / 4) 4)))) = x1 → Q (.inl (some (pI x2))) m c n)))))))) : Wq g (d + 2) MX5_slotBy c n 2 [some (pO 20 9 0), some (pI x1), some (pI x2)] [] m Q := by
  refine Wq.iload_n (x := x2) dX5_slotBy_2 rfl ?_
  refine Wq.sipush (v := 160) dX5_slotBy_3 (by decide) ?_
  refine Wq.icmpge (tgt := 43) dX5_slotBy_6 (by decide) (fun q1 => ?_) (fun q1 => ?_)
  · replace h := h.1 q1
    refine Wq.iconst (v := (-1)) dX5_slotBy_43 (by decide) ?_
    exact Wq.iret dX5_slotBy_44 (⟨_, rfl, rfl⟩) h
  · replace h := h.2 q1
    refine Wq.iload_n (x := x2) dX5_slotBy_9 rfl ?_
    refine Wq.callSI (As := [pI x2]) dX5_slotBy_10 fX5_examinerOf ml_X5_52 rfl (Nat.le_of_ble_eq_true rfl) (Nat.le_of_ble_eq_true rfl) (suX5_examinerOf trivial) (fun x5 m9 e9 => ?_)
    obtain ⟨rfl, rfl⟩ := e9
    refine Wq.aload_n (t := 20) (r := 9) (j := 0) dX5_slotBy_13 rfl ?_
    refine Wq.getf (v := pO 21 9 0) dX5_slotBy_14 fl_X5_7 ⟨rfl, rfl, by decide⟩ rfl ?_
    refine Wq.iconst (v := 1) dX5_slotBy_17 (by decide) ?_
    refine Wq.iald dX5_slotBy_18 rfl (vp_dec rfl) ?_
    refine Wq.icmpge (tgt := 37) dX5_slotBy_19 (by decide) (fun q2 => ?_) (fun q2 => ?_)
    · replace h := h.1 q2
      refine Wq.iinc (x := x2) (ls2 := [some (pO 20 9 0), some (pI x1), some (pI (x2 + 1))]) dX5_slotBy_37 rfl (by decide) rfl ?_
      refine Wq.goto (tgt := 2) dX5_slotBy_40 (by decide) ?_
      exact h
    · replace h := h.2 q2
      refine Wq.aload_n (t := 20) (r := 9) (j := 0) dX5_slotBy_22 rfl ?_
      refine Wq.getf (v := pO 21 9 0) dX5_slotBy_23 fl_X5_7 ⟨rfl, rfl, by decide⟩ rfl ?_
      refine Wq.iload_n (x := x2) dX5_slotBy_26 rfl ?_
      refine Wq.callSI (As := [pI x2]) dX5_slotBy_27 fX5_placeOf ml_X5_66 rfl (Nat.le_of_ble_eq_true rfl) (Nat.le_of_ble_eq_true rfl) (suX5_placeOf trivial) (fun x4 m9 e9 => ?_)
      obtain ⟨rfl, rfl⟩ := e9
      refine Wq.iald dX5_slotBy_30 rfl h.1 ?_
      replace h := h.2
      refine Wq.iload_n (x := x1) dX5_slotBy_31 rfl ?_
      refine Wq.icmpne (tgt := 37) dX5_slotBy_32 (by decide) (fun q3 => ?_) (fun q3 => ?_)
      · replace h := h.1 q3
        refine Wq.iinc (x := x2) (ls2 := [some (pO 20 9 0), some (pI x1), some (pI (x2 + 1))]) dX5_slotBy_37 rfl (by decide) rfl ?_
        refine Wq.goto (tgt := 2) dX5_slotBy_40 (by decide) ?_
        exact h
      · replace h := h.2 q3
        refine Wq.iload_n (x := x2) dX5_slotBy_35 rfl ?_
        exact Wq.iret dX5_slotBy_36 (⟨_, rfl, rfl⟩) h
set_option maxHeartbeats 4000000 in
set_option maxRecDepth 20000 in
theorem sgX5_placeInOrder {g : GG} {d : Nat} {c n : Nat} {m : PM} {Q : Ou → PM → Nat → Nat → Prop} {x1 : Int32} (h : Wq g (d + 2) MX5_placeInOrder c n 4 [some (pO 20 9 0), some (pI x1), some (pI 0), some (pI 0)] [] m Q) : Wq g (d + 2) MX5_placeInOrder c n 0 [some (pO 20 9 0), some (pI x1)] [] m Q := by
  refine Wq.few (ls' := [some (pO 20 9 0), some (pI x1), none, none]) ⟨rfl, ⟨rfl, trivial⟩⟩ ?_
  refine Wq.iconst (v := 0) dX5_placeInOrder_0 (by decide) ?_
  refine Wq.istore_n (ls2 := [some (pO 20 9 0), some (pI x1), some (pI 0), none]) dX5_placeInOrder_1 (by decide) rfl ?_
  refine Wq.iconst (v := 0) dX5_placeInOrder_2 (by decide) ?_
  refine Wq.istore_n (ls2 := [some (pO 20 9 0), some (pI x1), some (pI 0), some (pI 0)]) dX5_placeInOrder_3 (by decide) rfl ?_
  exact h
set_option maxHeartbeats 4000000 in
set_option maxRecDepth 20000 in
theorem sgX5_placeInOrder_4 {g : GG} {d : Nat} {c n : Nat} {m : PM} {Q : Ou → PM → Nat → Nat → Prop} {x1 : Int32} {x2 : Int32} {x3 : Int32} (h : (((m.1 9 21 0 (ix 2)) ≤ x3 → Q (.inl (some (pI x2))) m c n) ∧ (¬ (m.1 9 21 0 (ix 2)) ≤ x3 → (vp_in ((197 + (12 * x3)) + (0 : Int32)) 341 ∧ ((¬ (m.1 9 21 0 (ix ((197 + (12 * x3)) + (0 : Int32)))) = 1 → Wq g (d + 2) MX5_placeInOrder c n 4 [some (pO 20 9 0), some (pI x1), some (pI (x2 + 0)), some (pI (x3 + 1))] [] m Q) ∧ ((m.1 9 21 0 (ix ((197 + (12 * x3)) + (0 : Int32)))) = 1 → ((vp_in ((197 + (12 * x3)) + (5 : Int32)) 341 ∧ (vp_in ((197 + (12 * x1)) + (5 : Int32)) 341 ∧ (¬ 0 < ((m.1 9 21 0 (ix ((197 + (12 * x3)) + (5 : Int32)))) - (m.1 9 21 0 (ix ((197 + (12 * x1)) + (5 : Int32))))) → (((m.1 9 21 0 (ix ((197 + (12 * x3)) + (5 : Int32)))) - (m.1 9 21 0 (ix ((197 + (12 * x1)) + (5 : Int32))))) = 0 → (vp_in ((197 + (12 * x3)) + (6 : Int32)) 341 ∧ (vp_in ((197 + (12 * x1)) + (6 : Int32)) 341 ∧ True)))))) ∧ ((¬ ((0 < ((m.1 9 21 0 (ix ((197 + (12 * x3)) + (5 : Int32)))) - (m.1 9 21 0 (ix ((197 + (12 * x1)) + (5 : Int32)))))) ∨ ((((m.1 9 21 0 (ix ((197 + (12 * x3)) + (5 : Int32)))) - (m.1 9 21 0 (ix ((197 + (12 * x1)) + (5 : Int32))))) = 0) ∧ (¬ (m.1 9 21 0 (ix ((197 + (12 * x1)) + (6 : Int32)))) ≤ (m.1 9 21 0 (ix ((197 + (12 * x3)) + (6 : Int32))))))) → Wq g (d + 2) MX5_placeInOrder c n 4 [some (pO 20 9 0), some (pI x1), some (pI (x2 + 0)), some (pI (x3 + 1))] [] m Q) ∧ ((0 < ((m.1 9 21 0 (ix ((197 + (12 * x3)) + (5 : Int32)))) - (m.1 9 21 0 (ix ((197 + (12 * x1)) + (5 : Int32)))))) ∨ ((((m.1 9 21 0 (ix ((197 + (12 * x3)) + (5 : Int32)))) - (m.1 9 21 0 (ix ((197 + (12 * x1)) + (5 : Int32))))) = 0) ∧ (¬ (m.1 9 21 0 (ix ((197 + (12 * x1)) + (6 : Int32)))) ≤ (m.1 9 21 0 (ix ((197 + (12 * x3)) + (6 : Int32)))))) → Wq g (d + 2) MX5_placeInOrder c n 4 [some (pO 20 9 0), some (pI x1), some (pI (x2 + 1)), some (pI (x3 + 1))] [] m Q))))))))) : Wq g (d + 2) MX5_placeInOrder c n 4 [some (pO 20 9 0), some (pI x1), some (pI x2), some (pI x3)] [] m Q := by
  refine Wq.iload_n (x := x3) dX5_placeInOrder_4 rfl ?_
  refine Wq.aload_n (t := 20) (r := 9) (j := 0) dX5_placeInOrder_5 rfl ?_
  refine Wq.getf (v := pO 21 9 0) dX5_placeInOrder_6 fl_X5_7 ⟨rfl, rfl, by decide⟩ rfl ?_
  refine Wq.iconst (v := 2) dX5_placeInOrder_9 (by decide) ?_
  refine Wq.iald dX5_placeInOrder_10 rfl (vp_dec rfl) ?_
  refine Wq.icmpge (tgt := 51) dX5_placeInOrder_11 (by decide) (fun q1 => ?_) (fun q1 => ?_)
  · replace h := h.1 q1
    refine Wq.iload_n (x := x2) dX5_placeInOrder_51 rfl ?_
    exact Wq.iret dX5_placeInOrder_52 (⟨_, rfl, rfl⟩) h
  · replace h := h.2 q1
    refine Wq.iload_n (x := x2) dX5_placeInOrder_14 rfl ?_
    refine Wq.aload_n (t := 20) (r := 9) (j := 0) dX5_placeInOrder_15 rfl ?_
    refine Wq.getf (v := pO 21 9 0) dX5_placeInOrder_16 fl_X5_7 ⟨rfl, rfl, by decide⟩ rfl ?_
    refine Wq.iload_n (x := x3) dX5_placeInOrder_19 rfl ?_
    refine Wq.iconst (v := 0) dX5_placeInOrder_20 (by decide) ?_
    refine Wq.callSI (As := [pI x3, pI 0]) dX5_placeInOrder_21 fX5_of ml_X5_69 rfl (Nat.le_of_ble_eq_true rfl) (Nat.le_of_ble_eq_true rfl) (suX5_of trivial) (fun x5 m9 e9 => ?_)
    obtain ⟨rfl, rfl⟩ := e9
    refine Wq.iald dX5_placeInOrder_24 rfl h.1 ?_
    replace h := h.2
    refine Wq.iconst (v := 1) dX5_placeInOrder_25 (by decide) ?_
    refine Wq.icmpne (tgt := 42) dX5_placeInOrder_26 (by decide) (fun q2 => ?_) (fun q2 => ?_)
    · replace h := h.1 q2
      refine Wq.iconst (v := 0) dX5_placeInOrder_42 (by decide) ?_
      refine Wq.iadd dX5_placeInOrder_43 ?_
      refine Wq.istore_n (ls2 := [some (pO 20 9 0), some (pI x1), some (pI (x2 + 0)), some (pI x3)]) dX5_placeInOrder_44 (by decide) rfl ?_
      refine Wq.iinc (x := x3) (ls2 := [some (pO 20 9 0), some (pI x1), some (pI (x2 + 0)), some (pI (x3 + 1))]) dX5_placeInOrder_45 rfl (by decide) rfl ?_
      refine Wq.goto (tgt := 4) dX5_placeInOrder_48 (by decide) ?_
      exact h
    · replace h := h.2 q2
      refine Wq.aload_n (t := 20) (r := 9) (j := 0) dX5_placeInOrder_29 rfl ?_
      refine Wq.iload_n (x := x3) dX5_placeInOrder_30 rfl ?_
      refine Wq.iload_n (x := x1) dX5_placeInOrder_31 rfl ?_
      refine Wq.callVI (As := [pI x3, pI x1]) dX5_placeInOrder_32 fX5_isAhead ml_X5_77 rfl (by decide) rfl (Nat.le_of_ble_eq_true rfl) (Nat.le_of_ble_eq_true rfl) (suX5_isAhead h.1) (fun x4 m9 e9 => ?_)
      obtain ⟨rfl, rfl⟩ := e9
      replace h := h.2
      refine Wq.ifeq (tgt := 42) dX5_placeInOrder_35 (by decide) (fun q3 => ?_) (fun q3 => ?_)
      · replace h := h.1 (bI_0 q3)
        refine Wq.iconst (v := 0) dX5_placeInOrder_42 (by decide) ?_
        refine Wq.iadd dX5_placeInOrder_43 ?_
        refine Wq.istore_n (ls2 := [some (pO 20 9 0), some (pI x1), some (pI (x2 + 0)), some (pI x3)]) dX5_placeInOrder_44 (by decide) rfl ?_
        refine Wq.iinc (x := x3) (ls2 := [some (pO 20 9 0), some (pI x1), some (pI (x2 + 0)), some (pI (x3 + 1))]) dX5_placeInOrder_45 rfl (by decide) rfl ?_
        refine Wq.goto (tgt := 4) dX5_placeInOrder_48 (by decide) ?_
        exact h
      · replace h := h.2 (bI_1 q3)
        refine Wq.iconst (v := 1) dX5_placeInOrder_38 (by decide) ?_
        refine Wq.goto (tgt := 43) dX5_placeInOrder_39 (by decide) ?_
        refine Wq.iadd dX5_placeInOrder_43 ?_
        refine Wq.istore_n (ls2 := [some (pO 20 9 0), some (pI x1), some (pI (x2 + 1)), some (pI x3)]) dX5_placeInOrder_44 (by decide) rfl ?_
        refine Wq.iinc (x := x3) (ls2 := [some (pO 20 9 0), some (pI x1), some (pI (x2 + 1)), some (pI (x3 + 1))]) dX5_placeInOrder_45 rfl (by decide) rfl ?_
        refine Wq.goto (tgt := 4) dX5_placeInOrder_48 (by decide) ?_
        exact h
set_option maxHeartbeats 4000000 in
set_option maxRecDepth 20000 in
theorem sgX5_word {g : GG} {d : Nat} {c n : Nat} {m : PM} {Q : Ou → PM → Nat → Nat → Prop} {x1 : Int32} (h : Wq g (d + 2) MX5_word c n 3 [some (pO 20 9 0), some (pI x1), some (pI 65536), none, none] [] m Q) : Wq g (d + 2) MX5_word c n 0 [some (pO 20 9 0), some (pI x1)] [] m Q := by
  refine Wq.few (ls' := [some (pO 20 9 0), some (pI x1), none, none, none]) ⟨rfl, ⟨rfl, trivial⟩⟩ ?_
  refine Wq.ldc dX5_word_0 lc_X5_157 ?_
  refine Wq.istore_n (ls2 := [some (pO 20 9 0), some (pI x1), some (pI 65536), none, none]) dX5_word_2 (by decide) rfl ?_
  exact h
set_option maxHeartbeats 4000000 in
set_option maxRecDepth 20000 in
theorem sgX5_word_3 {g : GG} {d : Nat} {c n : Nat} {m : PM} {Q : Ou → PM → Nat → Nat → Prop} {x1 : Int32} {x2 : Int32} (h : ((x2 ≤ 0 → Q (.inl none) m c n) ∧ (¬ x2 ≤ 0 → (¬ x2 = 0 ∧ ((¬ (irm (x1 / x2) 256) = 0 → Wp g (d + 1) MX5_sign 0 [some (pO 20 9 0), some (pI (irm (x1 / x2) 256)), some (pI (irm (x1 / x2) 256))] [] m (cI fun r3 m4 => Wq g (d + 2) MX5_word c n 3 [some (pO 20 9 0), some (pI x1), some (pI (x2 / 256)), none, none] [] m4 Q)) ∧ ((irm (x1 / x2) 256) = 0 → Wq g (d + 2) MX5_word c n 3 [some (pO 20 9 0), some (pI x1), some (pI (x2 / 256)), none, none] [] m Q)))))) : Wq g (d + 2) MX5_word c n 3 [some (pO 20 9 0), some (pI x1), some (pI x2), none, none] [] m Q := by
  refine Wq.iload_n (x := x2) dX5_word_3 rfl ?_
  refine Wq.ifle (tgt := 40) dX5_word_4 (by decide) (fun q1 => ?_) (fun q1 => ?_)
  · replace h := h.1 q1
    exact Wq.vret dX5_word_40 rfl h
  · replace h := h.2 q1
    refine Wq.iload_n (x := x1) dX5_word_7 rfl ?_
    refine Wq.iload_n (x := x2) dX5_word_8 rfl ?_
    refine Wq.idiv dX5_word_9 h.1 ?_
    replace h := h.2
    refine Wq.sipush (v := 256) dX5_word_10 (by decide) ?_
    refine Wq.irem dX5_word_13 (by decide) ?_
    refine Wq.istore_n (ls2 := [some (pO 20 9 0), some (pI x1), some (pI x2), some (pI (irm (x1 / x2) 256)), none]) dX5_word_14 (by decide) rfl ?_
    refine Wq.iload_n (x := (irm (x1 / x2) 256)) dX5_word_15 rfl ?_
    refine Wq.ifne (tgt := 23) dX5_word_16 (by decide) (fun q2 => ?_) (fun q2 => ?_)
    · replace h := h.1 q2
      refine Wq.aload_n (t := 20) (r := 9) (j := 0) dX5_word_23 rfl ?_
      refine Wq.iload_n (x := (irm (x1 / x2) 256)) dX5_word_24 rfl ?_
      refine Wq.iload_n (x := (irm (x1 / x2) 256)) dX5_word_25 rfl ?_
      refine Wq.callVI (As := [pI (irm (x1 / x2) 256), pI (irm (x1 / x2) 256)]) dX5_word_26 fX5_sign ml_X5_158 rfl (by decide) rfl (Nat.le_of_ble_eq_true rfl) (Nat.le_of_ble_eq_true rfl) h (fun r3 m4 h => ?_)
      refine Wq.istore (ls2 := [some (pO 20 9 0), some (pI x1), some (pI x2), some (pI (irm (x1 / x2) 256)), some (pI r3)]) dX5_word_29 (by decide) rfl ?_
      refine Wq.iload_n (x := x2) dX5_word_31 rfl ?_
      refine Wq.sipush (v := 256) dX5_word_32 (by decide) ?_
      refine Wq.idiv dX5_word_35 (by decide) ?_
      refine Wq.istore_n (ls2 := [some (pO 20 9 0), some (pI x1), some (pI (x2 / 256)), some (pI (irm (x1 / x2) 256)), some (pI r3)]) dX5_word_36 (by decide) rfl ?_
      refine Wq.goto (tgt := 3) dX5_word_37 (by decide) ?_
      refine Wq.few (ls' := [some (pO 20 9 0), some (pI x1), some (pI (x2 / 256)), none, none]) ⟨rfl, ⟨rfl, ⟨rfl, trivial⟩⟩⟩ ?_
      exact h
    · replace h := h.2 q2
      refine Wq.iconst (v := 0) dX5_word_19 (by decide) ?_
      refine Wq.goto (tgt := 29) dX5_word_20 (by decide) ?_
      refine Wq.istore (ls2 := [some (pO 20 9 0), some (pI x1), some (pI x2), some (pI (irm (x1 / x2) 256)), some (pI 0)]) dX5_word_29 (by decide) rfl ?_
      refine Wq.iload_n (x := x2) dX5_word_31 rfl ?_
      refine Wq.sipush (v := 256) dX5_word_32 (by decide) ?_
      refine Wq.idiv dX5_word_35 (by decide) ?_
      refine Wq.istore_n (ls2 := [some (pO 20 9 0), some (pI x1), some (pI (x2 / 256)), some (pI (irm (x1 / x2) 256)), some (pI 0)]) dX5_word_36 (by decide) rfl ?_
      refine Wq.goto (tgt := 3) dX5_word_37 (by decide) ?_
      refine Wq.few (ls' := [some (pO 20 9 0), some (pI x1), some (pI (x2 / 256)), none, none]) ⟨rfl, ⟨rfl, ⟨rfl, trivial⟩⟩⟩ ?_
      exact h
set_option maxHeartbeats 4000000 in
set_option maxRecDepth 20000 in
theorem sgX5_examiner {g : GG} {d : Nat} {c n : Nat} {m : PM} {Q : Ou → PM → Nat → Nat → Prop} {x1 : Int32} {x2 : Int32} (h : (((¬ x1 < (0 : Int32)) ∧ (¬ ((m.1 9 21 0 (ix 1)) - 1) < x1) → (((¬ x2 < (0 : Int32)) ∧ (¬ (8 : Int32) < x2) → Wp g (d + 1) MX5_examinerOf_ 0 [some (pO 20 9 0), some (pI x1), some (pI x2)] [] (setI m 20 9 0 0 0) (cI fun r3 m4 => Q (.inl (some (pI r3))) m4 c n)) ∧ (¬ ((¬ x2 < (0 : Int32)) ∧ (¬ (8 : Int32) < x2)) → Q (.inl (some (pI 0))) (setI m 20 9 0 0 2) c n))) ∧ (¬ ((¬ x1 < (0 : Int32)) ∧ (¬ ((m.1 9 21 0 (ix 1)) - 1) < x1)) → Q (.inl (some (pI 0))) (setI m 20 9 0 0 1) c n))) : Wq g (d + 2) MX5_examiner c n 0 [some (pO 20 9 0), some (pI x1), some (pI x2)] [] m Q := by
  refine Wq.few (ls' := [some (pO 20 9 0), some (pI x1), some (pI x2)]) ⟨rfl, ⟨rfl, ⟨rfl, trivial⟩⟩⟩ ?_
  refine Wq.aload_n (t := 20) (r := 9) (j := 0) dX5_examiner_0 rfl ?_
  refine Wq.aload_n (t := 20) (r := 9) (j := 0) dX5_examiner_1 rfl ?_
  refine Wq.iload_n (x := x1) dX5_examiner_2 rfl ?_
  refine Wq.callVI (As := [pI x1]) dX5_examiner_3 fX5_isExaminer ml_X5_121 rfl (by decide) rfl (Nat.le_of_ble_eq_true rfl) (Nat.le_of_ble_eq_true rfl) (suX5_isExaminer trivial) (fun x6 m9 e9 => ?_)
  obtain ⟨rfl, rfl⟩ := e9
  refine Wq.ifne (tgt := 13) dX5_examiner_6 (by decide) (fun q1 => ?_) (fun q1 => ?_)
  · replace h := h.1 (bI_1 q1)
    refine Wq.iload_n (x := x2) dX5_examiner_13 rfl ?_
    refine Wq.iconst (v := 0) dX5_examiner_14 (by decide) ?_
    refine Wq.bipush (v := 8) dX5_examiner_15 (by decide) ?_
    refine Wq.callSI (As := [pI x2, pI 0, pI 8]) dX5_examiner_17 fX5_in ml_X5_45 rfl (Nat.le_of_ble_eq_true rfl) (Nat.le_of_ble_eq_true rfl) (suX5_in trivial) (fun x5 m9 e9 => ?_)
    obtain ⟨rfl, rfl⟩ := e9
    refine Wq.ifne (tgt := 27) dX5_examiner_20 (by decide) (fun q2 => ?_) (fun q2 => ?_)
    · replace h := h.1 (bI_1 q2)
      refine Wq.iconst (v := 0) dX5_examiner_27 (by decide) ?_
      refine Wq.callVI (As := [pI 0]) dX5_examiner_28 fX5_holds ml_X5_86 rfl (by decide) rfl (Nat.le_of_ble_eq_true rfl) (Nat.le_of_ble_eq_true rfl) ?_ (fun _ _ h9 => h9)
      refine Wq.few (ls' := [some (pO 20 9 0), some (pI 0)]) ⟨rfl, ⟨rfl, trivial⟩⟩ ?_
      refine Wq.aload_n (t := 20) (r := 9) (j := 0) dX5_holds_0 rfl ?_
      refine Wq.iload_n (x := 0) dX5_holds_1 rfl ?_
      refine Wq.putI dX5_holds_2 fw_X5_41 ⟨rfl, rfl, by decide⟩ ⟨rfl, by decide, by decide⟩ ⟨rfl, rfl⟩ ?_
      refine Wq.iload_n (x := 0) dX5_holds_5 rfl ?_
      refine Wq.ifne (tgt := 13) dX5_holds_6 (by decide) (fun q9 => absurd q9 (by decide)) (fun _ => ?_)
      refine Wq.iconst (v := 1) dX5_holds_9 (by decide) ?_
      refine Wq.goto (tgt := 14) dX5_holds_10 (by decide) ?_
      refine Wq.iretI dX5_holds_14 (⟨_, rfl, by decide⟩) ?_
      refine Wq.ifeq (tgt := 43) dX5_examiner_31 (by decide) (fun q9 => absurd q9 (by decide)) (fun _ => ?_)
      refine Wq.aload_n (t := 20) (r := 9) (j := 0) dX5_examiner_34 rfl ?_
      refine Wq.iload_n (x := x1) dX5_examiner_35 rfl ?_
      refine Wq.iload_n (x := x2) dX5_examiner_36 rfl ?_
      refine Wq.callVI (As := [pI x1, pI x2]) dX5_examiner_37 fX5_examinerOf_ ml_X5_186 rfl (by decide) rfl (Nat.le_of_ble_eq_true rfl) (Nat.le_of_ble_eq_true rfl) h (fun r3 m4 h => ?_)
      refine Wq.goto (tgt := 44) dX5_examiner_40 (by decide) ?_
      exact Wq.iret dX5_examiner_44 (⟨_, rfl, rfl⟩) h
    · replace h := h.2 (bI_0 q2)
      refine Wq.iconst (v := 2) dX5_examiner_23 (by decide) ?_
      refine Wq.goto (tgt := 28) dX5_examiner_24 (by decide) ?_
      refine Wq.callVI (As := [pI 2]) dX5_examiner_28 fX5_holds ml_X5_86 rfl (by decide) rfl (Nat.le_of_ble_eq_true rfl) (Nat.le_of_ble_eq_true rfl) ?_ (fun _ _ h9 => h9)
      refine Wq.few (ls' := [some (pO 20 9 0), some (pI 2)]) ⟨rfl, ⟨rfl, trivial⟩⟩ ?_
      refine Wq.aload_n (t := 20) (r := 9) (j := 0) dX5_holds_0 rfl ?_
      refine Wq.iload_n (x := 2) dX5_holds_1 rfl ?_
      refine Wq.putI dX5_holds_2 fw_X5_41 ⟨rfl, rfl, by decide⟩ ⟨rfl, by decide, by decide⟩ ⟨rfl, rfl⟩ ?_
      refine Wq.iload_n (x := 2) dX5_holds_5 rfl ?_
      refine Wq.ifne (tgt := 13) dX5_holds_6 (by decide) (fun _ => ?_) (fun q9 => absurd q9 (by decide))
      refine Wq.iconst (v := 0) dX5_holds_13 (by decide) ?_
      refine Wq.iretI dX5_holds_14 (⟨_, rfl, by decide⟩) ?_
      refine Wq.ifeq (tgt := 43) dX5_examiner_31 (by decide) (fun _ => ?_) (fun q9 => absurd q9 (by decide))
      refine Wq.iconst (v := 0) dX5_examiner_43 (by decide) ?_
      exact Wq.iret dX5_examiner_44 (⟨_, rfl, rfl⟩) h
  · replace h := h.2 (bI_0 q1)
    refine Wq.iconst (v := 1) dX5_examiner_9 (by decide) ?_
    refine Wq.goto (tgt := 28) dX5_examiner_10 (by decide) ?_
    refine Wq.callVI (As := [pI 1]) dX5_examiner_28 fX5_holds ml_X5_86 rfl (by decide) rfl (Nat.le_of_ble_eq_true rfl) (Nat.le_of_ble_eq_true rfl) ?_ (fun _ _ h9 => h9)
    refine Wq.few (ls' := [some (pO 20 9 0), some (pI 1)]) ⟨rfl, ⟨rfl, trivial⟩⟩ ?_
    refine Wq.aload_n (t := 20) (r := 9) (j := 0) dX5_holds_0 rfl ?_
    refine Wq.iload_n (x := 1) dX5_holds_1 rfl ?_
    refine Wq.putI dX5_holds_2 fw_X5_41 ⟨rfl, rfl, by decide⟩ ⟨rfl, by decide, by decide⟩ ⟨rfl, rfl⟩ ?_
    refine Wq.iload_n (x := 1) dX5_holds_5 rfl ?_
    refine Wq.ifne (tgt := 13) dX5_holds_6 (by decide) (fun _ => ?_) (fun q9 => absurd q9 (by decide))
    refine Wq.iconst (v := 0) dX5_holds_13 (by decide) ?_
    refine Wq.iretI dX5_holds_14 (⟨_, rfl, by decide⟩) ?_
    refine Wq.ifeq (tgt := 43) dX5_examiner_31 (by decide) (fun _ => ?_) (fun q9 => absurd q9 (by decide))
    refine Wq.iconst (v := 0) dX5_examiner_43 (by decide) ?_
    exact Wq.iret dX5_examiner_44 (⟨_, rfl, rfl⟩) h
set_option maxHeartbeats 4000000 in
set_option maxRecDepth 20000 in
theorem sgX5_slot {g : GG} {d : Nat} {c n : Nat} {m : PM} {Q : Ou → PM → Nat → Nat → Prop} {x1 : Int32} {x2 : Int32} {x3 : Int32} (h : (((¬ x1 < (0 : Int32)) ∧ (¬ ((m.1 9 21 0 (ix 1)) - 1) < x1) → ((¬ ((¬ x2 < (0 : Int32)) ∧ (¬ (9 : Int32) < x2)) → Q (.inl (some (pI 0))) (setI m 20 9 0 0 2) c n) ∧ ((¬ x2 < (0 : Int32)) ∧ (¬ (9 : Int32) < x2) → (((¬ x3 < (0 : Int32)) ∧ (¬ (3 : Int32) < x3) → (vp_in (((9 + (40 * x1)) + (4 * x2)) + x3) 341 ∧ Q (.inl (some (pI ((setI m 20 9 0 0 0).1 9 21 0 (ix (((9 + (40 * x1)) + (4 * x2)) + x3)))))) (setI m 20 9 0 0 0) c n)) ∧ (¬ ((¬ x3 < (0 : Int32)) ∧ (¬ (3 : Int32) < x3)) → Q (.inl (some (pI 0))) (setI m 20 9 0 0 2) c n))))) ∧ (¬ ((¬ x1 < (0 : Int32)) ∧ (¬ ((m.1 9 21 0 (ix 1)) - 1) < x1)) → Q (.inl (some (pI 0))) (setI m 20 9 0 0 1) c n))) : Wq g (d + 2) MX5_slot c n 0 [some (pO 20 9 0), some (pI x1), some (pI x2), some (pI x3)] [] m Q := by
  refine Wq.few (ls' := [some (pO 20 9 0), some (pI x1), some (pI x2), some (pI x3)]) ⟨rfl, ⟨rfl, ⟨rfl, ⟨rfl, trivial⟩⟩⟩⟩ ?_
  refine Wq.aload_n (t := 20) (r := 9) (j := 0) dX5_slot_0 rfl ?_
  refine Wq.aload_n (t := 20) (r := 9) (j := 0) dX5_slot_1 rfl ?_
  refine Wq.iload_n (x := x1) dX5_slot_2 rfl ?_
  refine Wq.callVI (As := [pI x1]) dX5_slot_3 fX5_isExaminer ml_X5_121 rfl (by decide) rfl (Nat.le_of_ble_eq_true rfl) (Nat.le_of_ble_eq_true rfl) (suX5_isExaminer trivial) (fun x7 m9 e9 => ?_)
  obtain ⟨rfl, rfl⟩ := e9
  refine Wq.ifne (tgt := 13) dX5_slot_6 (by decide) (fun q1 => ?_) (fun q1 => ?_)
  · replace h := h.1 (bI_1 q1)
    refine Wq.iload_n (x := x2) dX5_slot_13 rfl ?_
    refine Wq.iconst (v := 0) dX5_slot_14 (by decide) ?_
    refine Wq.bipush (v := 9) dX5_slot_15 (by decide) ?_
    refine Wq.callSI (As := [pI x2, pI 0, pI 9]) dX5_slot_17 fX5_in ml_X5_45 rfl (Nat.le_of_ble_eq_true rfl) (Nat.le_of_ble_eq_true rfl) (suX5_in trivial) (fun x6 m9 e9 => ?_)
    obtain ⟨rfl, rfl⟩ := e9
    refine Wq.ifeq (tgt := 32) dX5_slot_20 (by decide) (fun q2 => ?_) (fun q2 => ?_)
    · replace h := h.1 (bI_0 q2)
      refine Wq.iconst (v := 2) dX5_slot_32 (by decide) ?_
      refine Wq.goto (tgt := 37) dX5_slot_33 (by decide) ?_
      refine Wq.callVI (As := [pI 2]) dX5_slot_37 fX5_holds ml_X5_86 rfl (by decide) rfl (Nat.le_of_ble_eq_true rfl) (Nat.le_of_ble_eq_true rfl) ?_ (fun _ _ h9 => h9)
      refine Wq.few (ls' := [some (pO 20 9 0), some (pI 2)]) ⟨rfl, ⟨rfl, trivial⟩⟩ ?_
      refine Wq.aload_n (t := 20) (r := 9) (j := 0) dX5_holds_0 rfl ?_
      refine Wq.iload_n (x := 2) dX5_holds_1 rfl ?_
      refine Wq.putI dX5_holds_2 fw_X5_41 ⟨rfl, rfl, by decide⟩ ⟨rfl, by decide, by decide⟩ ⟨rfl, rfl⟩ ?_
      refine Wq.iload_n (x := 2) dX5_holds_5 rfl ?_
      refine Wq.ifne (tgt := 13) dX5_holds_6 (by decide) (fun _ => ?_) (fun q9 => absurd q9 (by decide))
      refine Wq.iconst (v := 0) dX5_holds_13 (by decide) ?_
      refine Wq.iretI dX5_holds_14 (⟨_, rfl, by decide⟩) ?_
      refine Wq.ifeq (tgt := 57) dX5_slot_40 (by decide) (fun _ => ?_) (fun q9 => absurd q9 (by decide))
      refine Wq.iconst (v := 0) dX5_slot_57 (by decide) ?_
      exact Wq.iret dX5_slot_58 (⟨_, rfl, rfl⟩) h
    · replace h := h.2 (bI_1 q2)
      refine Wq.iload_n (x := x3) dX5_slot_23 rfl ?_
      refine Wq.iconst (v := 0) dX5_slot_24 (by decide) ?_
      refine Wq.iconst (v := 3) dX5_slot_25 (by decide) ?_
      refine Wq.callSI (As := [pI x3, pI 0, pI 3]) dX5_slot_26 fX5_in ml_X5_45 rfl (Nat.le_of_ble_eq_true rfl) (Nat.le_of_ble_eq_true rfl) (suX5_in trivial) (fun x5 m9 e9 => ?_)
      obtain ⟨rfl, rfl⟩ := e9
      refine Wq.ifne (tgt := 36) dX5_slot_29 (by decide) (fun q3 => ?_) (fun q3 => ?_)
      · replace h := h.1 (bI_1 q3)
        refine Wq.iconst (v := 0) dX5_slot_36 (by decide) ?_
        refine Wq.callVI (As := [pI 0]) dX5_slot_37 fX5_holds ml_X5_86 rfl (by decide) rfl (Nat.le_of_ble_eq_true rfl) (Nat.le_of_ble_eq_true rfl) ?_ (fun _ _ h9 => h9)
        refine Wq.few (ls' := [some (pO 20 9 0), some (pI 0)]) ⟨rfl, ⟨rfl, trivial⟩⟩ ?_
        refine Wq.aload_n (t := 20) (r := 9) (j := 0) dX5_holds_0 rfl ?_
        refine Wq.iload_n (x := 0) dX5_holds_1 rfl ?_
        refine Wq.putI dX5_holds_2 fw_X5_41 ⟨rfl, rfl, by decide⟩ ⟨rfl, by decide, by decide⟩ ⟨rfl, rfl⟩ ?_
        refine Wq.iload_n (x := 0) dX5_holds_5 rfl ?_
        refine Wq.ifne (tgt := 13) dX5_holds_6 (by decide) (fun q9 => absurd q9 (by decide)) (fun _ => ?_)
        refine Wq.iconst (v := 1) dX5_holds_9 (by decide) ?_
        refine Wq.goto (tgt := 14) dX5_holds_10 (by decide) ?_
        refine Wq.iretI dX5_holds_14 (⟨_, rfl, by decide⟩) ?_
        refine Wq.ifeq (tgt := 57) dX5_slot_40 (by decide) (fun q9 => absurd q9 (by decide)) (fun _ => ?_)
        refine Wq.aload_n (t := 20) (r := 9) (j := 0) dX5_slot_43 rfl ?_
        refine Wq.getf (v := pO 21 9 0) dX5_slot_44 fl_X5_7 ⟨rfl, rfl, by decide⟩ rfl ?_
        refine Wq.iload_n (x := x1) dX5_slot_47 rfl ?_
        refine Wq.iload_n (x := x2) dX5_slot_48 rfl ?_
        refine Wq.iload_n (x := x3) dX5_slot_49 rfl ?_
        refine Wq.callSI (As := [pI x1, pI x2, pI x3]) dX5_slot_50 fX5_at ml_X5_62 rfl (Nat.le_of_ble_eq_true rfl) (Nat.le_of_ble_eq_true rfl) (suX5_at trivial) (fun x4 m9 e9 => ?_)
        obtain ⟨rfl, rfl⟩ := e9
        refine Wq.iald dX5_slot_53 rfl h.1 ?_
        replace h := h.2
        refine Wq.goto (tgt := 58) dX5_slot_54 (by decide) ?_
        exact Wq.iret dX5_slot_58 (⟨_, rfl, rfl⟩) h
      · replace h := h.2 (bI_0 q3)
        refine Wq.iconst (v := 2) dX5_slot_32 (by decide) ?_
        refine Wq.goto (tgt := 37) dX5_slot_33 (by decide) ?_
        refine Wq.callVI (As := [pI 2]) dX5_slot_37 fX5_holds ml_X5_86 rfl (by decide) rfl (Nat.le_of_ble_eq_true rfl) (Nat.le_of_ble_eq_true rfl) ?_ (fun _ _ h9 => h9)
        refine Wq.few (ls' := [some (pO 20 9 0), some (pI 2)]) ⟨rfl, ⟨rfl, trivial⟩⟩ ?_
        refine Wq.aload_n (t := 20) (r := 9) (j := 0) dX5_holds_0 rfl ?_
        refine Wq.iload_n (x := 2) dX5_holds_1 rfl ?_
        refine Wq.putI dX5_holds_2 fw_X5_41 ⟨rfl, rfl, by decide⟩ ⟨rfl, by decide, by decide⟩ ⟨rfl, rfl⟩ ?_
        refine Wq.iload_n (x := 2) dX5_holds_5 rfl ?_
        refine Wq.ifne (tgt := 13) dX5_holds_6 (by decide) (fun _ => ?_) (fun q9 => absurd q9 (by decide))
        refine Wq.iconst (v := 0) dX5_holds_13 (by decide) ?_
        refine Wq.iretI dX5_holds_14 (⟨_, rfl, by decide⟩) ?_
        refine Wq.ifeq (tgt := 57) dX5_slot_40 (by decide) (fun _ => ?_) (fun q9 => absurd q9 (by decide))
        refine Wq.iconst (v := 0) dX5_slot_57 (by decide) ?_
        exact Wq.iret dX5_slot_58 (⟨_, rfl, rfl⟩) h
  · replace h := h.2 (bI_0 q1)
    refine Wq.iconst (v := 1) dX5_slot_9 (by decide) ?_
    refine Wq.goto (tgt := 37) dX5_slot_10 (by decide) ?_
    refine Wq.callVI (As := [pI 1]) dX5_slot_37 fX5_holds ml_X5_86 rfl (by decide) rfl (Nat.le_of_ble_eq_true rfl) (Nat.le_of_ble_eq_true rfl) ?_ (fun _ _ h9 => h9)
    refine Wq.few (ls' := [some (pO 20 9 0), some (pI 1)]) ⟨rfl, ⟨rfl, trivial⟩⟩ ?_
    refine Wq.aload_n (t := 20) (r := 9) (j := 0) dX5_holds_0 rfl ?_
    refine Wq.iload_n (x := 1) dX5_holds_1 rfl ?_
    refine Wq.putI dX5_holds_2 fw_X5_41 ⟨rfl, rfl, by decide⟩ ⟨rfl, by decide, by decide⟩ ⟨rfl, rfl⟩ ?_
    refine Wq.iload_n (x := 1) dX5_holds_5 rfl ?_
    refine Wq.ifne (tgt := 13) dX5_holds_6 (by decide) (fun _ => ?_) (fun q9 => absurd q9 (by decide))
    refine Wq.iconst (v := 0) dX5_holds_13 (by decide) ?_
    refine Wq.iretI dX5_holds_14 (⟨_, rfl, by decide⟩) ?_
    refine Wq.ifeq (tgt := 57) dX5_slot_40 (by decide) (fun _ => ?_) (fun q9 => absurd q9 (by decide))
    refine Wq.iconst (v := 0) dX5_slot_57 (by decide) ?_
    exact Wq.iret dX5_slot_58 (⟨_, rfl, rfl⟩) h
set_option maxHeartbeats 4000000 in
set_option maxRecDepth 20000 in
theorem sgX5_sumOfExaminers {g : GG} {d : Nat} {c n : Nat} {m : PM} {Q : Ou → PM → Nat → Nat → Prop} {x1 : Int32} (h : Wq g (d + 2) MX5_sumOfExaminers c n 4 [some (pO 20 9 0), some (pI x1), some (pI 0), some (pI 0)] [] m Q) : Wq g (d + 2) MX5_sumOfExaminers c n 0 [some (pO 20 9 0), some (pI x1)] [] m Q := by
  refine Wq.few (ls' := [some (pO 20 9 0), some (pI x1), none, none]) ⟨rfl, ⟨rfl, trivial⟩⟩ ?_
  refine Wq.iconst (v := 0) dX5_sumOfExaminers_0 (by decide) ?_
  refine Wq.istore_n (ls2 := [some (pO 20 9 0), some (pI x1), some (pI 0), none]) dX5_sumOfExaminers_1 (by decide) rfl ?_
  refine Wq.iconst (v := 0) dX5_sumOfExaminers_2 (by decide) ?_
  refine Wq.istore_n (ls2 := [some (pO 20 9 0), some (pI x1), some (pI 0), some (pI 0)]) dX5_sumOfExaminers_3 (by decide) rfl ?_
  exact h
set_option maxHeartbeats 4000000 in
set_option maxRecDepth 20000 in
theorem sgX5_sumOfExaminers_4 {g : GG} {d : Nat} {c n : Nat} {m : PM} {Q : Ou → PM → Nat → Nat → Prop} {x1 : Int32} {x2 : Int32} {x3 : Int32} (h : (((m.1 9 21 0 (ix 1)) ≤ x3 → Q (.inl (some (pI x2))) m c n) ∧ (¬ (m.1 9 21 0 (ix 1)) ≤ x3 → Wp g (d + 1) MX5_examinerOf_ 0 [some (pO 20 9 0), some (pI x3), some (pI x1)] [] m (cI fun r2 m3 => Wq g (d + 2) MX5_sumOfExaminers c n 4 [some (pO 20 9 0), some (pI x1), some (pI (x2 + r2)), some (pI (x3 + 1))] [] m3 Q)))) : Wq g (d + 2) MX5_sumOfExaminers c n 4 [some (pO 20 9 0), some (pI x1), some (pI x2), some (pI x3)] [] m Q := by
  refine Wq.iload_n (x := x3) dX5_sumOfExaminers_4 rfl ?_
  refine Wq.aload_n (t := 20) (r := 9) (j := 0) dX5_sumOfExaminers_5 rfl ?_
  refine Wq.getf (v := pO 21 9 0) dX5_sumOfExaminers_6 fl_X5_7 ⟨rfl, rfl, by decide⟩ rfl ?_
  refine Wq.iconst (v := 1) dX5_sumOfExaminers_9 (by decide) ?_
  refine Wq.iald dX5_sumOfExaminers_10 rfl (vp_dec rfl) ?_
  refine Wq.icmpge (tgt := 29) dX5_sumOfExaminers_11 (by decide) (fun q1 => ?_) (fun q1 => ?_)
  · replace h := h.1 q1
    refine Wq.iload_n (x := x2) dX5_sumOfExaminers_29 rfl ?_
    exact Wq.iret dX5_sumOfExaminers_30 (⟨_, rfl, rfl⟩) h
  · replace h := h.2 q1
    refine Wq.iload_n (x := x2) dX5_sumOfExaminers_14 rfl ?_
    refine Wq.aload_n (t := 20) (r := 9) (j := 0) dX5_sumOfExaminers_15 rfl ?_
    refine Wq.iload_n (x := x3) dX5_sumOfExaminers_16 rfl ?_
    refine Wq.iload_n (x := x1) dX5_sumOfExaminers_17 rfl ?_
    refine Wq.callVI (As := [pI x3, pI x1]) dX5_sumOfExaminers_18 fX5_examinerOf_ ml_X5_186 rfl (by decide) rfl (Nat.le_of_ble_eq_true rfl) (Nat.le_of_ble_eq_true rfl) h (fun r2 m3 h => ?_)
    refine Wq.iadd dX5_sumOfExaminers_21 ?_
    refine Wq.istore_n (ls2 := [some (pO 20 9 0), some (pI x1), some (pI (x2 + r2)), some (pI x3)]) dX5_sumOfExaminers_22 (by decide) rfl ?_
    refine Wq.iinc (x := x3) (ls2 := [some (pO 20 9 0), some (pI x1), some (pI (x2 + r2)), some (pI (x3 + 1))]) dX5_sumOfExaminers_23 rfl (by decide) rfl ?_
    refine Wq.goto (tgt := 4) dX5_sumOfExaminers_26 (by decide) ?_
    exact h
set_option maxHeartbeats 4000000 in
set_option maxRecDepth 20000 in
theorem sgX5_ifTested {g : GG} {d : Nat} {c n : Nat} {m : PM} {Q : Ou → PM → Nat → Nat → Prop} {x1 : Int32} {x2 : Int32} (h : ((¬ ((¬ x1 < (0 : Int32)) ∧ (¬ ((m.1 9 21 0 (ix 2)) - 1) < x1)) → Q (.inl (some (pI 0))) (setI m 20 9 0 0 1) c n) ∧ ((¬ x1 < (0 : Int32)) ∧ (¬ ((m.1 9 21 0 (ix 2)) - 1) < x1) → ((¬ ((¬ x2 < (0 : Int32)) ∧ (¬ ((m.1 9 21 0 (ix 1)) - 1) < x2)) → Q (.inl (some (pI 0))) (setI m 20 9 0 0 1) c n) ∧ ((¬ x2 < (0 : Int32)) ∧ (¬ ((m.1 9 21 0 (ix 1)) - 1) < x2) → Wp g (d + 1) MX5_routeFor 0 [some (pO 20 9 0), some (pI x1), some (pI x2)] [] (setI m 20 9 0 0 0) (cI fun r3 m4 => Q (.inl (some (pI r3))) m4 c n)))))) : Wq g (d + 2) MX5_ifTested c n 0 [some (pO 20 9 0), some (pI x1), some (pI x2)] [] m Q := by
  refine Wq.few (ls' := [some (pO 20 9 0), some (pI x1), some (pI x2)]) ⟨rfl, ⟨rfl, ⟨rfl, trivial⟩⟩⟩ ?_
  refine Wq.aload_n (t := 20) (r := 9) (j := 0) dX5_ifTested_0 rfl ?_
  refine Wq.aload_n (t := 20) (r := 9) (j := 0) dX5_ifTested_1 rfl ?_
  refine Wq.iload_n (x := x1) dX5_ifTested_2 rfl ?_
  refine Wq.callVI (As := [pI x1]) dX5_ifTested_3 fX5_isPupil ml_X5_99 rfl (by decide) rfl (Nat.le_of_ble_eq_true rfl) (Nat.le_of_ble_eq_true rfl) (suX5_isPupil trivial) (fun x6 m9 e9 => ?_)
  obtain ⟨rfl, rfl⟩ := e9
  refine Wq.ifeq (tgt := 21) dX5_ifTested_6 (by decide) (fun q1 => ?_) (fun q1 => ?_)
  · replace h := h.1 (bI_0 q1)
    refine Wq.iconst (v := 1) dX5_ifTested_21 (by decide) ?_
    refine Wq.callVI (As := [pI 1]) dX5_ifTested_22 fX5_holds ml_X5_86 rfl (by decide) rfl (Nat.le_of_ble_eq_true rfl) (Nat.le_of_ble_eq_true rfl) ?_ (fun _ _ h9 => h9)
    refine Wq.few (ls' := [some (pO 20 9 0), some (pI 1)]) ⟨rfl, ⟨rfl, trivial⟩⟩ ?_
    refine Wq.aload_n (t := 20) (r := 9) (j := 0) dX5_holds_0 rfl ?_
    refine Wq.iload_n (x := 1) dX5_holds_1 rfl ?_
    refine Wq.putI dX5_holds_2 fw_X5_41 ⟨rfl, rfl, by decide⟩ ⟨rfl, by decide, by decide⟩ ⟨rfl, rfl⟩ ?_
    refine Wq.iload_n (x := 1) dX5_holds_5 rfl ?_
    refine Wq.ifne (tgt := 13) dX5_holds_6 (by decide) (fun _ => ?_) (fun q9 => absurd q9 (by decide))
    refine Wq.iconst (v := 0) dX5_holds_13 (by decide) ?_
    refine Wq.iretI dX5_holds_14 (⟨_, rfl, by decide⟩) ?_
    refine Wq.ifeq (tgt := 37) dX5_ifTested_25 (by decide) (fun _ => ?_) (fun q9 => absurd q9 (by decide))
    refine Wq.iconst (v := 0) dX5_ifTested_37 (by decide) ?_
    exact Wq.iret dX5_ifTested_38 (⟨_, rfl, rfl⟩) h
  · replace h := h.2 (bI_1 q1)
    refine Wq.aload_n (t := 20) (r := 9) (j := 0) dX5_ifTested_9 rfl ?_
    refine Wq.iload_n (x := x2) dX5_ifTested_10 rfl ?_
    refine Wq.callVI (As := [pI x2]) dX5_ifTested_11 fX5_isExaminer ml_X5_121 rfl (by decide) rfl (Nat.le_of_ble_eq_true rfl) (Nat.le_of_ble_eq_true rfl) (suX5_isExaminer trivial) (fun x5 m9 e9 => ?_)
    obtain ⟨rfl, rfl⟩ := e9
    refine Wq.ifeq (tgt := 21) dX5_ifTested_14 (by decide) (fun q2 => ?_) (fun q2 => ?_)
    · replace h := h.1 (bI_0 q2)
      refine Wq.iconst (v := 1) dX5_ifTested_21 (by decide) ?_
      refine Wq.callVI (As := [pI 1]) dX5_ifTested_22 fX5_holds ml_X5_86 rfl (by decide) rfl (Nat.le_of_ble_eq_true rfl) (Nat.le_of_ble_eq_true rfl) ?_ (fun _ _ h9 => h9)
      refine Wq.few (ls' := [some (pO 20 9 0), some (pI 1)]) ⟨rfl, ⟨rfl, trivial⟩⟩ ?_
      refine Wq.aload_n (t := 20) (r := 9) (j := 0) dX5_holds_0 rfl ?_
      refine Wq.iload_n (x := 1) dX5_holds_1 rfl ?_
      refine Wq.putI dX5_holds_2 fw_X5_41 ⟨rfl, rfl, by decide⟩ ⟨rfl, by decide, by decide⟩ ⟨rfl, rfl⟩ ?_
      refine Wq.iload_n (x := 1) dX5_holds_5 rfl ?_
      refine Wq.ifne (tgt := 13) dX5_holds_6 (by decide) (fun _ => ?_) (fun q9 => absurd q9 (by decide))
      refine Wq.iconst (v := 0) dX5_holds_13 (by decide) ?_
      refine Wq.iretI dX5_holds_14 (⟨_, rfl, by decide⟩) ?_
      refine Wq.ifeq (tgt := 37) dX5_ifTested_25 (by decide) (fun _ => ?_) (fun q9 => absurd q9 (by decide))
      refine Wq.iconst (v := 0) dX5_ifTested_37 (by decide) ?_
      exact Wq.iret dX5_ifTested_38 (⟨_, rfl, rfl⟩) h
    · replace h := h.2 (bI_1 q2)
      refine Wq.iconst (v := 0) dX5_ifTested_17 (by decide) ?_
      refine Wq.goto (tgt := 22) dX5_ifTested_18 (by decide) ?_
      refine Wq.callVI (As := [pI 0]) dX5_ifTested_22 fX5_holds ml_X5_86 rfl (by decide) rfl (Nat.le_of_ble_eq_true rfl) (Nat.le_of_ble_eq_true rfl) ?_ (fun _ _ h9 => h9)
      refine Wq.few (ls' := [some (pO 20 9 0), some (pI 0)]) ⟨rfl, ⟨rfl, trivial⟩⟩ ?_
      refine Wq.aload_n (t := 20) (r := 9) (j := 0) dX5_holds_0 rfl ?_
      refine Wq.iload_n (x := 0) dX5_holds_1 rfl ?_
      refine Wq.putI dX5_holds_2 fw_X5_41 ⟨rfl, rfl, by decide⟩ ⟨rfl, by decide, by decide⟩ ⟨rfl, rfl⟩ ?_
      refine Wq.iload_n (x := 0) dX5_holds_5 rfl ?_
      refine Wq.ifne (tgt := 13) dX5_holds_6 (by decide) (fun q9 => absurd q9 (by decide)) (fun _ => ?_)
      refine Wq.iconst (v := 1) dX5_holds_9 (by decide) ?_
      refine Wq.goto (tgt := 14) dX5_holds_10 (by decide) ?_
      refine Wq.iretI dX5_holds_14 (⟨_, rfl, by decide⟩) ?_
      refine Wq.ifeq (tgt := 37) dX5_ifTested_25 (by decide) (fun q9 => absurd q9 (by decide)) (fun _ => ?_)
      refine Wq.aload_n (t := 20) (r := 9) (j := 0) dX5_ifTested_28 rfl ?_
      refine Wq.iload_n (x := x1) dX5_ifTested_29 rfl ?_
      refine Wq.iload_n (x := x2) dX5_ifTested_30 rfl ?_
      refine Wq.callVI (As := [pI x1, pI x2]) dX5_ifTested_31 fX5_routeFor ml_X5_130 rfl (by decide) rfl (Nat.le_of_ble_eq_true rfl) (Nat.le_of_ble_eq_true rfl) h (fun r3 m4 h => ?_)
      refine Wq.goto (tgt := 38) dX5_ifTested_34 (by decide) ?_
      exact Wq.iret dX5_ifTested_38 (⟨_, rfl, rfl⟩) h
set_option maxHeartbeats 4000000 in
set_option maxRecDepth 20000 in
theorem sgX5_earliestOf {g : GG} {d : Nat} {c n : Nat} {m : PM} {Q : Ou → PM → Nat → Nat → Prop} {x1 : Int32} (h : Wq g (d + 3) MX5_earliestOf c n 2 [some (pO 20 9 0), some (pI x1), some (pI 0)] [] m Q) : Wq g (d + 3) MX5_earliestOf c n 0 [some (pO 20 9 0), some (pI x1)] [] m Q := by
  refine Wq.few (ls' := [some (pO 20 9 0), some (pI x1), none]) ⟨rfl, ⟨rfl, trivial⟩⟩ ?_
  refine Wq.iconst (v := 0) dX5_earliestOf_0 (by decide) ?_
  refine Wq.istore_n (ls2 := [some (pO 20 9 0), some (pI x1), some (pI 0)]) dX5_earliestOf_1 (by decide) rfl ?_
  exact h
set_option maxHeartbeats 4000000 in
set_option maxRecDepth 20000 in
theorem sgX5_earliestOf_2 {g : GG} {d : Nat} {c n : Nat} {m : PM} {Q : Ou → PM → Nat → Nat → Prop} {x1 : Int32} {x2 : Int32} (h : ((160 ≤ x2 → Q (.inl (some (pI (-1)))) m c n) ∧ (¬ 160 ≤ x2 → ((¬ (m.1 9 21 0 (ix 1)) ≤ (irm x2 4) → (vp_in (((9 + (40 * (irm x2 4))) + (4 * (x2 / 16))) + (irm (x2 / 4) 4)) 341 ∧ ((m.1 9 21 0 (ix (((9 + (40 * (irm x2 4))) + (4 * (x2 / 16))) + (irm (x2 / 4) 4)))) = (-1) → (vp_in ((197 + (12 * x1)) + (2 : Int32)) 341 ∧ (¬ ((m.1 9 21 0 (ix 0)) + (x2 / 16)) < (m.1 9 21 0 (ix ((197 + (12 * x1)) + (2 : Int32)))) → (¬ (m.1 9 21 0 (ix 6)) = 0 → (vp_in ((197 + (12 * x1)) + (4 : Int32)) 341 ∧ True))))))) ∧ ((¬ ((¬ (m.1 9 21 0 (ix 1)) ≤ (irm x2 4)) ∧ (((m.1 9 21 0 (ix (((9 + (40 * (irm x2 4))) + (4 * (x2 / 16))) + (irm (x2 / 4) 4)))) = (-1)) ∧ ((¬ ((m.1 9 21 0 (ix 0)) + (x2 / 16)) < (m.1 9 21 0 (ix ((197 + (12 * x1)) + (2 : Int32))))) ∧ (((m.1 9 21 0 (ix 6)) = 0) ∨ (¬ (irm x2 4) = (m.1 9 21 0 (ix ((197 + (12 * x1)) + (4 : Int32))))))))) → Wq g (d + 3) MX5_earliestOf c n 2 [some (pO 20 9 0), some (pI x1), some (pI (x2 + 1))] [] m Q) ∧ ((¬ (m.1 9 21 0 (ix 1)) ≤ (irm x2 4)) ∧ (((m.1 9 21 0 (ix (((9 + (40 * (irm x2 4))) + (4 * (x2 / 16))) + (irm (x2 / 4) 4)))) = (-1)) ∧ ((¬ ((m.1 9 21 0 (ix 0)) + (x2 / 16)) < (m.1 9 21 0 (ix ((197 + (12 * x1)) + (2 : Int32))))) ∧ (((m.1 9 21 0 (ix 6)) = 0) ∨ (¬ (irm x2 4) = (m.1 9 21 0 (ix ((197 + (12 * x1)) + (4 : Int32)))))))) → Q (.inl (some (pI x2))) m c n)))))) : Wq g (d + 3) MX5_earliestOf c n 2 [some (pO 20 9 0), some (pI x1), some (pI x2)] [] m Q := by
  refine Wq.iload_n (x := x2) dX5_earliestOf_2 rfl ?_
  refine Wq.sipush (v := 160) dX5_earliestOf_3 (by decide) ?_
  refine Wq.icmpge (tgt := 26) dX5_earliestOf_6 (by decide) (fun q1 => ?_) (fun q1 => ?_)
  · replace h := h.1 q1
    refine Wq.iconst (v := (-1)) dX5_earliestOf_26 (by decide) ?_
    exact Wq.iret dX5_earliestOf_27 (⟨_, rfl, rfl⟩) h
  · replace h := h.2 q1
    refine Wq.aload_n (t := 20) (r := 9) (j := 0) dX5_earliestOf_9 rfl ?_
    refine Wq.iload_n (x := x1) dX5_earliestOf_10 rfl ?_
    refine Wq.iload_n (x := x2) dX5_earliestOf_11 rfl ?_
    refine Wq.callVI (As := [pI x1, pI x2]) dX5_earliestOf_12 fX5_canHave ml_X5_73 rfl (by decide) rfl (Nat.le_of_ble_eq_true rfl) (Nat.le_of_ble_eq_true rfl) (suX5_canHave h.1) (fun x3 m9 e9 => ?_)
    obtain ⟨rfl, rfl⟩ := e9
    replace h := h.2
    refine Wq.ifeq (tgt := 20) dX5_earliestOf_15 (by decide) (fun q2 => ?_) (fun q2 => ?_)
    · replace h := h.1 (bI_0 q2)
      refine Wq.iinc (x := x2) (ls2 := [some (pO 20 9 0), some (pI x1), some (pI (x2 + 1))]) dX5_earliestOf_20 rfl (by decide) rfl ?_
      refine Wq.goto (tgt := 2) dX5_earliestOf_23 (by decide) ?_
      exact h
    · replace h := h.2 (bI_1 q2)
      refine Wq.iload_n (x := x2) dX5_earliestOf_18 rfl ?_
      exact Wq.iret dX5_earliestOf_19 (⟨_, rfl, rfl⟩) h
set_option maxHeartbeats 4000000 in
set_option maxRecDepth 20000 in
theorem sgX5_testFault {g : GG} {d : Nat} {c n : Nat} {m : PM} {Q : Ou → PM → Nat → Nat → Prop} {x1 : Int32} (h : (((¬ x1 < (0 : Int32)) ∧ (¬ ((m.1 9 21 0 (ix 2)) - 1) < x1) → Wp g (d + 2) MX5_slotBy 0 [some (pO 20 9 0), some (pI x1)] [] m (cI fun r2 m3 => ((r2 = (-1) → Q (.inl (some (pI 2))) m3 c n) ∧ (¬ r2 = (-1) → (((r2 / 16) ≤ 0 → Q (.inl (some (pI 0))) m3 c n) ∧ (¬ (r2 / 16) ≤ 0 → Q (.inl (some (pI 2))) m3 c n)))))) ∧ (¬ ((¬ x1 < (0 : Int32)) ∧ (¬ ((m.1 9 21 0 (ix 2)) - 1) < x1)) → Q (.inl (some (pI 1))) m c n))) : Wq g (d + 3) MX5_testFault c n 0 [some (pO 20 9 0), some (pI x1)] [] m Q := by
  refine Wq.few (ls' := [some (pO 20 9 0), some (pI x1), none]) ⟨rfl, ⟨rfl, trivial⟩⟩ ?_
  refine Wq.aload_n (t := 20) (r := 9) (j := 0) dX5_testFault_0 rfl ?_
  refine Wq.iload_n (x := x1) dX5_testFault_1 rfl ?_
  refine Wq.callVI (As := [pI x1]) dX5_testFault_2 fX5_isPupil ml_X5_99 rfl (by decide) rfl (Nat.le_of_ble_eq_true rfl) (Nat.le_of_ble_eq_true rfl) (suX5_isPupil trivial) (fun x7 m9 e9 => ?_)
  obtain ⟨rfl, rfl⟩ := e9
  refine Wq.ifne (tgt := 10) dX5_testFault_5 (by decide) (fun q1 => ?_) (fun q1 => ?_)
  · replace h := h.1 (bI_1 q1)
    refine Wq.aload_n (t := 20) (r := 9) (j := 0) dX5_testFault_10 rfl ?_
    refine Wq.iload_n (x := x1) dX5_testFault_11 rfl ?_
    refine Wq.callVI (As := [pI x1]) dX5_testFault_12 fX5_slotBy ml_X5_106 rfl (by decide) rfl (Nat.le_of_ble_eq_true rfl) (Nat.le_of_ble_eq_true rfl) h (fun r2 m3 h => ?_)
    refine Wq.istore_n (ls2 := [some (pO 20 9 0), some (pI x1), some (pI r2)]) dX5_testFault_15 (by decide) rfl ?_
    refine Wq.iload_n (x := r2) dX5_testFault_16 rfl ?_
    refine Wq.iconst (v := (-1)) dX5_testFault_17 (by decide) ?_
    refine Wq.icmpeq (tgt := 28) dX5_testFault_18 (by decide) (fun q4 => ?_) (fun q4 => ?_)
    · replace h := h.1 q4
      refine Wq.iconst (v := 2) dX5_testFault_28 (by decide) ?_
      refine Wq.goto (tgt := 33) dX5_testFault_29 (by decide) ?_
      exact Wq.iret dX5_testFault_33 (⟨_, rfl, rfl⟩) h
    · replace h := h.2 q4
      refine Wq.iload_n (x := r2) dX5_testFault_21 rfl ?_
      refine Wq.callSI (As := [pI r2]) dX5_testFault_22 fX5_dayOf ml_X5_56 rfl (Nat.le_of_ble_eq_true rfl) (Nat.le_of_ble_eq_true rfl) (suX5_dayOf trivial) (fun x6 m9 e9 => ?_)
      obtain ⟨rfl, rfl⟩ := e9
      refine Wq.ifle (tgt := 32) dX5_testFault_25 (by decide) (fun q5 => ?_) (fun q5 => ?_)
      · replace h := h.1 q5
        refine Wq.iconst (v := 0) dX5_testFault_32 (by decide) ?_
        exact Wq.iret dX5_testFault_33 (⟨_, rfl, rfl⟩) h
      · replace h := h.2 q5
        refine Wq.iconst (v := 2) dX5_testFault_28 (by decide) ?_
        refine Wq.goto (tgt := 33) dX5_testFault_29 (by decide) ?_
        exact Wq.iret dX5_testFault_33 (⟨_, rfl, rfl⟩) h
  · replace h := h.2 (bI_0 q1)
    refine Wq.iconst (v := 1) dX5_testFault_8 (by decide) ?_
    exact Wq.iret dX5_testFault_9 (⟨_, rfl, rfl⟩) h
set_option maxHeartbeats 4000000 in
set_option maxRecDepth 20000 in
theorem sgX5_tests {g : GG} {d : Nat} {c n : Nat} {m : PM} {Q : Ou → PM → Nat → Nat → Prop} {x1 : Int32} {x2 : Int32} (h : Wp g (d + 2) MX5_slotBy 0 [some (pO 20 9 0), some (pI x1)] [] m (cI fun r1 m2 => Wp g (d + 2) MX5_routeFor 0 [some (pO 20 9 0), some (pI x1), some (pI (irm r1 4))] [] m2 (cI fun r3 m4 => (vp_in (((9 + (40 * (irm r1 4))) + (4 * (r1 / 16))) + (irm (r1 / 4) 4)) 341 ∧ (vp_in ((169 + (7 * (irm r1 4))) + (0 : Int32)) 341 ∧ (vp_in ((169 + (7 * (irm r1 4))) + (0 : Int32)) 341 ∧ (vp_in ((169 + (7 * (irm r1 4))) + (3 + r3)) 341 ∧ (vp_in ((169 + (7 * (irm r1 4))) + (3 + r3)) 341 ∧ (vp_in ((197 + (12 * x1)) + (3 : Int32)) 341 ∧ (vp_in ((197 + (12 * x1)) + (4 : Int32)) 341 ∧ ((x2 = 0 → (vp_in ((197 + (12 * x1)) + (1 : Int32)) 341 ∧ (vp_in ((197 + (12 * x1)) + (1 : Int32)) 341 ∧ (vp_in ((197 + (12 * x1)) + (0 : Int32)) 341 ∧ (vp_in ((197 + (12 * x1)) + (1 : Int32)) 341 ∧ (((((setI (setI (setI (setI (setI (setI (setI m4 21 9 0 (ix (((9 + (40 * (irm r1 4))) + (4 * (r1 / 16))) + (irm (r1 / 4) 4))) (-2)) 21 9 0 (ix ((169 + (7 * (irm r1 4))) + (0 : Int32))) (((setI m4 21 9 0 (ix (((9 + (40 * (irm r1 4))) + (4 * (r1 / 16))) + (irm (r1 / 4) 4))) (-2)).1 9 21 0 (ix ((169 + (7 * (irm r1 4))) + (0 : Int32)))) + 1)) 21 9 0 (ix ((169 + (7 * (irm r1 4))) + (3 + r3))) (((setI (setI m4 21 9 0 (ix (((9 + (40 * (irm r1 4))) + (4 * (r1 / 16))) + (irm (r1 / 4) 4))) (-2)) 21 9 0 (ix ((169 + (7 * (irm r1 4))) + (0 : Int32))) (((setI m4 21 9 0 (ix (((9 + (40 * (irm r1 4))) + (4 * (r1 / 16))) + (irm (r1 / 4) 4))) (-2)).1 9 21 0 (ix ((169 + (7 * (irm r1 4))) + (0 : Int32)))) + 1)).1 9 21 0 (ix ((169 + (7 * (irm r1 4))) + (3 + r3)))) + 1)) 21 9 0 (ix ((197 + (12 * x1)) + (3 : Int32))) r3) 21 9 0 (ix ((197 + (12 * x1)) + (4 : Int32))) (irm r1 4)) 21 9 0 (ix ((197 + (12 * x1)) + (1 : Int32))) (((setI (setI (setI (setI (setI m4 21 9 0 (ix (((9 + (40 * (irm r1 4))) + (4 * (r1 / 16))) + (irm (r1 / 4) 4))) (-2)) 21 9 0 (ix ((169 + (7 * (irm r1 4))) + (0 : Int32))) (((setI m4 21 9 0 (ix (((9 + (40 * (irm r1 4))) + (4 * (r1 / 16))) + (irm (r1 / 4) 4))) (-2)).1 9 21 0 (ix ((169 + (7 * (irm r1 4))) + (0 : Int32)))) + 1)) 21 9 0 (ix ((169 + (7 * (irm r1 4))) + (3 + r3))) (((setI (setI m4 21 9 0 (ix (((9 + (40 * (irm r1 4))) + (4 * (r1 / 16))) + (irm (r1 / 4) 4))) (-2)) 21 9 0 (ix ((169 + (7 * (irm r1 4))) + (0 : Int32))) (((setI m4 21 9 0 (ix (((9 + (40 * (irm r1 4))) + (4 * (r1 / 16))) + (irm (r1 / 4) 4))) (-2)).1 9 21 0 (ix ((169 + (7 * (irm r1 4))) + (0 : Int32)))) + 1)).1 9 21 0 (ix ((169 + (7 * (irm r1 4))) + (3 + r3)))) + 1)) 21 9 0 (ix ((197 + (12 * x1)) + (3 : Int32))) r3) 21 9 0 (ix ((197 + (12 * x1)) + (4 : Int32))) (irm r1 4)).1 9 21 0 (ix ((197 + (12 * x1)) + (1 : Int32)))) + 1)) 21 9 0 (ix ((197 + (12 * x1)) + (0 : Int32))) 0).1 9 21 0 (ix 5)) * ((setI (setI (setI (setI (setI (setI (setI m4 21 9 0 (ix (((9 + (40 * (irm r1 4))) + (4 * (r1 / 16))) + (irm (r1 / 4) 4))) (-2)) 21 9 0 (ix ((169 + (7 * (irm r1 4))) + (0 : Int32))) (((setI m4 21 9 0 (ix (((9 + (40 * (irm r1 4))) + (4 * (r1 / 16))) + (irm (r1 / 4) 4))) (-2)).1 9 21 0 (ix ((169 + (7 * (irm r1 4))) + (0 : Int32)))) + 1)) 21 9 0 (ix ((169 + (7 * (irm r1 4))) + (3 + r3))) (((setI (setI m4 21 9 0 (ix (((9 + (40 * (irm r1 4))) + (4 * (r1 / 16))) + (irm (r1 / 4) 4))) (-2)) 21 9 0 (ix ((169 + (7 * (irm r1 4))) + (0 : Int32))) (((setI m4 21 9 0 (ix (((9 + (40 * (irm r1 4))) + (4 * (r1 / 16))) + (irm (r1 / 4) 4))) (-2)).1 9 21 0 (ix ((169 + (7 * (irm r1 4))) + (0 : Int32)))) + 1)).1 9 21 0 (ix ((169 + (7 * (irm r1 4))) + (3 + r3)))) + 1)) 21 9 0 (ix ((197 + (12 * x1)) + (3 : Int32))) r3) 21 9 0 (ix ((197 + (12 * x1)) + (4 : Int32))) (irm r1 4)) 21 9 0 (ix ((197 + (12 * x1)) + (1 : Int32))) (((setI (setI (setI (setI (setI m4 21 9 0 (ix (((9 + (40 * (irm r1 4))) + (4 * (r1 / 16))) + (irm (r1 / 4) 4))) (-2)) 21 9 0 (ix ((169 + (7 * (irm r1 4))) + (0 : Int32))) (((setI m4 21 9 0 (ix (((9 + (40 * (irm r1 4))) + (4 * (r1 / 16))) + (irm (r1 / 4) 4))) (-2)).1 9 21 0 (ix ((169 + (7 * (irm r1 4))) + (0 : Int32)))) + 1)) 21 9 0 (ix ((169 + (7 * (irm r1 4))) + (3 + r3))) (((setI (setI m4 21 9 0 (ix (((9 + (40 * (irm r1 4))) + (4 * (r1 / 16))) + (irm (r1 / 4) 4))) (-2)) 21 9 0 (ix ((169 + (7 * (irm r1 4))) + (0 : Int32))) (((setI m4 21 9 0 (ix (((9 + (40 * (irm r1 4))) + (4 * (r1 / 16))) + (irm (r1 / 4) 4))) (-2)).1 9 21 0 (ix ((169 + (7 * (irm r1 4))) + (0 : Int32)))) + 1)).1 9 21 0 (ix ((169 + (7 * (irm r1 4))) + (3 + r3)))) + 1)) 21 9 0 (ix ((197 + (12 * x1)) + (3 : Int32))) r3) 21 9 0 (ix ((197 + (12 * x1)) + (4 : Int32))) (irm r1 4)).1 9 21 0 (ix ((197 + (12 * x1)) + (1 : Int32)))) + 1)) 21 9 0 (ix ((197 + (12 * x1)) + (0 : Int32))) 0).1 9 21 0 (ix ((197 + (12 * x1)) + (1 : Int32))))) ≤ 60 → (vp_in ((197 + (12 * x1)) + (2 : Int32)) 341 ∧ Q (.inl (some (pI r3))) (setI (setI (setI (setI (setI (setI (setI (setI m4 21 9 0 (ix (((9 + (40 * (irm r1 4))) + (4 * (r1 / 16))) + (irm (r1 / 4) 4))) (-2)) 21 9 0 (ix ((169 + (7 * (irm r1 4))) + (0 : Int32))) (((setI m4 21 9 0 (ix (((9 + (40 * (irm r1 4))) + (4 * (r1 / 16))) + (irm (r1 / 4) 4))) (-2)).1 9 21 0 (ix ((169 + (7 * (irm r1 4))) + (0 : Int32)))) + 1)) 21 9 0 (ix ((169 + (7 * (irm r1 4))) + (3 + r3))) (((setI (setI m4 21 9 0 (ix (((9 + (40 * (irm r1 4))) + (4 * (r1 / 16))) + (irm (r1 / 4) 4))) (-2)) 21 9 0 (ix ((169 + (7 * (irm r1 4))) + (0 : Int32))) (((setI m4 21 9 0 (ix (((9 + (40 * (irm r1 4))) + (4 * (r1 / 16))) + (irm (r1 / 4) 4))) (-2)).1 9 21 0 (ix ((169 + (7 * (irm r1 4))) + (0 : Int32)))) + 1)).1 9 21 0 (ix ((169 + (7 * (irm r1 4))) + (3 + r3)))) + 1)) 21 9 0 (ix ((197 + (12 * x1)) + (3 : Int32))) r3) 21 9 0 (ix ((197 + (12 * x1)) + (4 : Int32))) (irm r1 4)) 21 9 0 (ix ((197 + (12 * x1)) + (1 : Int32))) (((setI (setI (setI (setI (setI m4 21 9 0 (ix (((9 + (40 * (irm r1 4))) + (4 * (r1 / 16))) + (irm (r1 / 4) 4))) (-2)) 21 9 0 (ix ((169 + (7 * (irm r1 4))) + (0 : Int32))) (((setI m4 21 9 0 (ix (((9 + (40 * (irm r1 4))) + (4 * (r1 / 16))) + (irm (r1 / 4) 4))) (-2)).1 9 21 0 (ix ((169 + (7 * (irm r1 4))) + (0 : Int32)))) + 1)) 21 9 0 (ix ((169 + (7 * (irm r1 4))) + (3 + r3))) (((setI (setI m4 21 9 0 (ix (((9 + (40 * (irm r1 4))) + (4 * (r1 / 16))) + (irm (r1 / 4) 4))) (-2)) 21 9 0 (ix ((169 + (7 * (irm r1 4))) + (0 : Int32))) (((setI m4 21 9 0 (ix (((9 + (40 * (irm r1 4))) + (4 * (r1 / 16))) + (irm (r1 / 4) 4))) (-2)).1 9 21 0 (ix ((169 + (7 * (irm r1 4))) + (0 : Int32)))) + 1)).1 9 21 0 (ix ((169 + (7 * (irm r1 4))) + (3 + r3)))) + 1)) 21 9 0 (ix ((197 + (12 * x1)) + (3 : Int32))) r3) 21 9 0 (ix ((197 + (12 * x1)) + (4 : Int32))) (irm r1 4)).1 9 21 0 (ix ((197 + (12 * x1)) + (1 : Int32)))) + 1)) 21 9 0 (ix ((197 + (12 * x1)) + (0 : Int32))) 0) 21 9 0 (ix ((197 + (12 * x1)) + (2 : Int32))) (((setI (setI (setI (setI (setI (setI (setI m4 21 9 0 (ix (((9 + (40 * (irm r1 4))) + (4 * (r1 / 16))) + (irm (r1 / 4) 4))) (-2)) 21 9 0 (ix ((169 + (7 * (irm r1 4))) + (0 : Int32))) (((setI m4 21 9 0 (ix (((9 + (40 * (irm r1 4))) + (4 * (r1 / 16))) + (irm (r1 / 4) 4))) (-2)).1 9 21 0 (ix ((169 + (7 * (irm r1 4))) + (0 : Int32)))) + 1)) 21 9 0 (ix ((169 + (7 * (irm r1 4))) + (3 + r3))) (((setI (setI m4 21 9 0 (ix (((9 + (40 * (irm r1 4))) + (4 * (r1 / 16))) + (irm (r1 / 4) 4))) (-2)) 21 9 0 (ix ((169 + (7 * (irm r1 4))) + (0 : Int32))) (((setI m4 21 9 0 (ix (((9 + (40 * (irm r1 4))) + (4 * (r1 / 16))) + (irm (r1 / 4) 4))) (-2)).1 9 21 0 (ix ((169 + (7 * (irm r1 4))) + (0 : Int32)))) + 1)).1 9 21 0 (ix ((169 + (7 * (irm r1 4))) + (3 + r3)))) + 1)) 21 9 0 (ix ((197 + (12 * x1)) + (3 : Int32))) r3) 21 9 0 (ix ((197 + (12 * x1)) + (4 : Int32))) (irm r1 4)) 21 9 0 (ix ((197 + (12 * x1)) + (1 : Int32))) (((setI (setI (setI (setI (setI m4 21 9 0 (ix (((9 + (40 * (irm r1 4))) + (4 * (r1 / 16))) + (irm (r1 / 4) 4))) (-2)) 21 9 0 (ix ((169 + (7 * (irm r1 4))) + (0 : Int32))) (((setI m4 21 9 0 (ix (((9 + (40 * (irm r1 4))) + (4 * (r1 / 16))) + (irm (r1 / 4) 4))) (-2)).1 9 21 0 (ix ((169 + (7 * (irm r1 4))) + (0 : Int32)))) + 1)) 21 9 0 (ix ((169 + (7 * (irm r1 4))) + (3 + r3))) (((setI (setI m4 21 9 0 (ix (((9 + (40 * (irm r1 4))) + (4 * (r1 / 16))) + (irm (r1 / 4) 4))) (-2)) 21 9 0 (ix ((169 + (7 * (irm r1 4))) + (0 : Int32))) (((setI m4 21 9 0 (ix (((9 + (40 * (irm r1 4))) + (4 * (r1 / 16))) + (irm (r1 / 4) 4))) (-2)).1 9 21 0 (ix ((169 + (7 * (irm r1 4))) + (0 : Int32)))) + 1)).1 9 21 0 (ix ((169 + (7 * (irm r1 4))) + (3 + r3)))) + 1)) 21 9 0 (ix ((197 + (12 * x1)) + (3 : Int32))) r3) 21 9 0 (ix ((197 + (12 * x1)) + (4 : Int32))) (irm r1 4)).1 9 21 0 (ix ((197 + (12 * x1)) + (1 : Int32)))) + 1)) 21 9 0 (ix ((197 + (12 * x1)) + (0 : Int32))) 0).1 9 21 0 (ix 0)) + (((setI (setI (setI (setI (setI (setI (setI m4 21 9 0 (ix (((9 + (40 * (irm r1 4))) + (4 * (r1 / 16))) + (irm (r1 / 4) 4))) (-2)) 21 9 0 (ix ((169 + (7 * (irm r1 4))) + (0 : Int32))) (((setI m4 21 9 0 (ix (((9 + (40 * (irm r1 4))) + (4 * (r1 / 16))) + (irm (r1 / 4) 4))) (-2)).1 9 21 0 (ix ((169 + (7 * (irm r1 4))) + (0 : Int32)))) + 1)) 21 9 0 (ix ((169 + (7 * (irm r1 4))) + (3 + r3))) (((setI (setI m4 21 9 0 (ix (((9 + (40 * (irm r1 4))) + (4 * (r1 / 16))) + (irm (r1 / 4) 4))) (-2)) 21 9 0 (ix ((169 + (7 * (irm r1 4))) + (0 : Int32))) (((setI m4 21 9 0 (ix (((9 + (40 * (irm r1 4))) + (4 * (r1 / 16))) + (irm (r1 / 4) 4))) (-2)).1 9 21 0 (ix ((169 + (7 * (irm r1 4))) + (0 : Int32)))) + 1)).1 9 21 0 (ix ((169 + (7 * (irm r1 4))) + (3 + r3)))) + 1)) 21 9 0 (ix ((197 + (12 * x1)) + (3 : Int32))) r3) 21 9 0 (ix ((197 + (12 * x1)) + (4 : Int32))) (irm r1 4)) 21 9 0 (ix ((197 + (12 * x1)) + (1 : Int32))) (((setI (setI (setI (setI (setI m4 21 9 0 (ix (((9 + (40 * (irm r1 4))) + (4 * (r1 / 16))) + (irm (r1 / 4) 4))) (-2)) 21 9 0 (ix ((169 + (7 * (irm r1 4))) + (0 : Int32))) (((setI m4 21 9 0 (ix (((9 + (40 * (irm r1 4))) + (4 * (r1 / 16))) + (irm (r1 / 4) 4))) (-2)).1 9 21 0 (ix ((169 + (7 * (irm r1 4))) + (0 : Int32)))) + 1)) 21 9 0 (ix ((169 + (7 * (irm r1 4))) + (3 + r3))) (((setI (setI m4 21 9 0 (ix (((9 + (40 * (irm r1 4))) + (4 * (r1 / 16))) + (irm (r1 / 4) 4))) (-2)) 21 9 0 (ix ((169 + (7 * (irm r1 4))) + (0 : Int32))) (((setI m4 21 9 0 (ix (((9 + (40 * (irm r1 4))) + (4 * (r1 / 16))) + (irm (r1 / 4) 4))) (-2)).1 9 21 0 (ix ((169 + (7 * (irm r1 4))) + (0 : Int32)))) + 1)).1 9 21 0 (ix ((169 + (7 * (irm r1 4))) + (3 + r3)))) + 1)) 21 9 0 (ix ((197 + (12 * x1)) + (3 : Int32))) r3) 21 9 0 (ix ((197 + (12 * x1)) + (4 : Int32))) (irm r1 4)).1 9 21 0 (ix ((197 + (12 * x1)) + (1 : Int32)))) + 1)) 21 9 0 (ix ((197 + (12 * x1)) + (0 : Int32))) 0).1 9 21 0 (ix 5)) * ((setI (setI (setI (setI (setI (setI (setI m4 21 9 0 (ix (((9 + (40 * (irm r1 4))) + (4 * (r1 / 16))) + (irm (r1 / 4) 4))) (-2)) 21 9 0 (ix ((169 + (7 * (irm r1 4))) + (0 : Int32))) (((setI m4 21 9 0 (ix (((9 + (40 * (irm r1 4))) + (4 * (r1 / 16))) + (irm (r1 / 4) 4))) (-2)).1 9 21 0 (ix ((169 + (7 * (irm r1 4))) + (0 : Int32)))) + 1)) 21 9 0 (ix ((169 + (7 * (irm r1 4))) + (3 + r3))) (((setI (setI m4 21 9 0 (ix (((9 + (40 * (irm r1 4))) + (4 * (r1 / 16))) + (irm (r1 / 4) 4))) (-2)) 21 9 0 (ix ((169 + (7 * (irm r1 4))) + (0 : Int32))) (((setI m4 21 9 0 (ix (((9 + (40 * (irm r1 4))) + (4 * (r1 / 16))) + (irm (r1 / 4) 4))) (-2)).1 9 21 0 (ix ((169 + (7 * (irm r1 4))) + (0 : Int32)))) + 1)).1 9 21 0 (ix ((169 + (7 * (irm r1 4))) + (3 + r3)))) + 1)) 21 9 0 (ix ((197 + (12 * x1)) + (3 : Int32))) r3) 21 9 0 (ix ((197 + (12 * x1)) + (4 : Int32))) (irm r1 4)) 21 9 0 (ix ((197 + (12 * x1)) + (1 : Int32))) (((setI (setI (setI (setI (setI m4 21 9 0 (ix (((9 + (40 * (irm r1 4))) + (4 * (r1 / 16))) + (irm (r1 / 4) 4))) (-2)) 21 9 0 (ix ((169 + (7 * (irm r1 4))) + (0 : Int32))) (((setI m4 21 9 0 (ix (((9 + (40 * (irm r1 4))) + (4 * (r1 / 16))) + (irm (r1 / 4) 4))) (-2)).1 9 21 0 (ix ((169 + (7 * (irm r1 4))) + (0 : Int32)))) + 1)) 21 9 0 (ix ((169 + (7 * (irm r1 4))) + (3 + r3))) (((setI (setI m4 21 9 0 (ix (((9 + (40 * (irm r1 4))) + (4 * (r1 / 16))) + (irm (r1 / 4) 4))) (-2)) 21 9 0 (ix ((169 + (7 * (irm r1 4))) + (0 : Int32))) (((setI m4 21 9 0 (ix (((9 + (40 * (irm r1 4))) + (4 * (r1 / 16))) + (irm (r1 / 4) 4))) (-2)).1 9 21 0 (ix ((169 + (7 * (irm r1 4))) + (0 : Int32)))) + 1)).1 9 21 0 (ix ((169 + (7 * (irm r1 4))) + (3 + r3)))) + 1)) 21 9 0 (ix ((197 + (12 * x1)) + (3 : Int32))) r3) 21 9 0 (ix ((197 + (12 * x1)) + (4 : Int32))) (irm r1 4)).1 9 21 0 (ix ((197 + (12 * x1)) + (1 : Int32)))) + 1)) 21 9 0 (ix ((197 + (12 * x1)) + (0 : Int32))) 0).1 9 21 0 (ix ((197 + (12 * x1)) + (1 : Int32))))))) c n)) ∧ (¬ (((setI (setI (setI (setI (setI (setI (setI m4 21 9 0 (ix (((9 + (40 * (irm r1 4))) + (4 * (r1 / 16))) + (irm (r1 / 4) 4))) (-2)) 21 9 0 (ix ((169 + (7 * (irm r1 4))) + (0 : Int32))) (((setI m4 21 9 0 (ix (((9 + (40 * (irm r1 4))) + (4 * (r1 / 16))) + (irm (r1 / 4) 4))) (-2)).1 9 21 0 (ix ((169 + (7 * (irm r1 4))) + (0 : Int32)))) + 1)) 21 9 0 (ix ((169 + (7 * (irm r1 4))) + (3 + r3))) (((setI (setI m4 21 9 0 (ix (((9 + (40 * (irm r1 4))) + (4 * (r1 / 16))) + (irm (r1 / 4) 4))) (-2)) 21 9 0 (ix ((169 + (7 * (irm r1 4))) + (0 : Int32))) (((setI m4 21 9 0 (ix (((9 + (40 * (irm r1 4))) + (4 * (r1 / 16))) + (irm (r1 / 4) 4))) (-2)).1 9 21 0 (ix ((169 + (7 * (irm r1 4))) + (0 : Int32)))) + 1)).1 9 21 0 (ix ((169 + (7 * (irm r1 4))) + (3 + r3)))) + 1)) 21 9 0 (ix ((197 + (12 * x1)) + (3 : Int32))) r3) 21 9 0 (ix ((197 + (12 * x1)) + (4 : Int32))) (irm r1 4)) 21 9 0 (ix ((197 + (12 * x1)) + (1 : Int32))) (((setI (setI (setI (setI (setI m4 21 9 0 (ix (((9 + (40 * (irm r1 4))) + (4 * (r1 / 16))) + (irm (r1 / 4) 4))) (-2)) 21 9 0 (ix ((169 + (7 * (irm r1 4))) + (0 : Int32))) (((setI m4 21 9 0 (ix (((9 + (40 * (irm r1 4))) + (4 * (r1 / 16))) + (irm (r1 / 4) 4))) (-2)).1 9 21 0 (ix ((169 + (7 * (irm r1 4))) + (0 : Int32)))) + 1)) 21 9 0 (ix ((169 + (7 * (irm r1 4))) + (3 + r3))) (((setI (setI m4 21 9 0 (ix (((9 + (40 * (irm r1 4))) + (4 * (r1 / 16))) + (irm (r1 / 4) 4))) (-2)) 21 9 0 (ix ((169 + (7 * (irm r1 4))) + (0 : Int32))) (((setI m4 21 9 0 (ix (((9 + (40 * (irm r1 4))) + (4 * (r1 / 16))) + (irm (r1 / 4) 4))) (-2)).1 9 21 0 (ix ((169 + (7 * (irm r1 4))) + (0 : Int32)))) + 1)).1 9 21 0 (ix ((169 + (7 * (irm r1 4))) + (3 + r3)))) + 1)) 21 9 0 (ix ((197 + (12 * x1)) + (3 : Int32))) r3) 21 9 0 (ix ((197 + (12 * x1)) + (4 : Int32))) (irm r1 4)).1 9 21 0 (ix ((197 + (12 * x1)) + (1 : Int32)))) + 1)) 21 9 0 (ix ((197 + (12 * x1)) + (0 : Int32))) 0).1 9 21 0 (ix 5)) * ((setI (setI (setI (setI (setI (setI (setI m4 21 9 0 (ix (((9 + (40 * (irm r1 4))) + (4 * (r1 / 16))) + (irm (r1 / 4) 4))) (-2)) 21 9 0 (ix ((169 + (7 * (irm r1 4))) + (0 : Int32))) (((setI m4 21 9 0 (ix (((9 + (40 * (irm r1 4))) + (4 * (r1 / 16))) + (irm (r1 / 4) 4))) (-2)).1 9 21 0 (ix ((169 + (7 * (irm r1 4))) + (0 : Int32)))) + 1)) 21 9 0 (ix ((169 + (7 * (irm r1 4))) + (3 + r3))) (((setI (setI m4 21 9 0 (ix (((9 + (40 * (irm r1 4))) + (4 * (r1 / 16))) + (irm (r1 / 4) 4))) (-2)) 21 9 0 (ix ((169 + (7 * (irm r1 4))) + (0 : Int32))) (((setI m4 21 9 0 (ix (((9 + (40 * (irm r1 4))) + (4 * (r1 / 16))) + (irm (r1 / 4) 4))) (-2)).1 9 21 0 (ix ((169 + (7 * (irm r1 4))) + (0 : Int32)))) + 1)).1 9 21 0 (ix ((169 + (7 * (irm r1 4))) + (3 + r3)))) + 1)) 21 9 0 (ix ((197 + (12 * x1)) + (3 : Int32))) r3) 21 9 0 (ix ((197 + (12 * x1)) + (4 : Int32))) (irm r1 4)) 21 9 0 (ix ((197 + (12 * x1)) + (1 : Int32))) (((setI (setI (setI (setI (setI m4 21 9 0 (ix (((9 + (40 * (irm r1 4))) + (4 * (r1 / 16))) + (irm (r1 / 4) 4))) (-2)) 21 9 0 (ix ((169 + (7 * (irm r1 4))) + (0 : Int32))) (((setI m4 21 9 0 (ix (((9 + (40 * (irm r1 4))) + (4 * (r1 / 16))) + (irm (r1 / 4) 4))) (-2)).1 9 21 0 (ix ((169 + (7 * (irm r1 4))) + (0 : Int32)))) + 1)) 21 9 0 (ix ((169 + (7 * (irm r1 4))) + (3 + r3))) (((setI (setI m4 21 9 0 (ix (((9 + (40 * (irm r1 4))) + (4 * (r1 / 16))) + (irm (r1 / 4) 4))) (-2)) 21 9 0 (ix ((169 + (7 * (irm r1 4))) + (0 : Int32))) (((setI m4 21 9 0 (ix (((9 + (40 * (irm r1 4))) + (4 * (r1 / 16))) + (irm (r1 / 4) 4))) (-2)).1 9 21 0 (ix ((169 + (7 * (irm r1 4))) + (0 : Int32)))) + 1)).1 9 21 0 (ix ((169 + (7 * (irm r1 4))) + (3 + r3)))) + 1)) 21 9 0 (ix ((197 + (12 * x1)) + (3 : Int32))) r3) 21 9 0 (ix ((197 + (12 * x1)) + (4 : Int32))) (irm r1 4)).1 9 21 0 (ix ((197 + (12 * x1)) + (1 : Int32)))) + 1)) 21 9 0 (ix ((197 + (12 * x1)) + (0 : Int32))) 0).1 9 21 0 (ix ((197 + (12 * x1)) + (1 : Int32))))) ≤ 60 → (vp_in ((197 + (12 * x1)) + (2 : Int32)) 341 ∧ Q (.inl (some (pI r3))) (setI (setI (setI (setI (setI (setI (setI (setI m4 21 9 0 (ix (((9 + (40 * (irm r1 4))) + (4 * (r1 / 16))) + (irm (r1 / 4) 4))) (-2)) 21 9 0 (ix ((169 + (7 * (irm r1 4))) + (0 : Int32))) (((setI m4 21 9 0 (ix (((9 + (40 * (irm r1 4))) + (4 * (r1 / 16))) + (irm (r1 / 4) 4))) (-2)).1 9 21 0 (ix ((169 + (7 * (irm r1 4))) + (0 : Int32)))) + 1)) 21 9 0 (ix ((169 + (7 * (irm r1 4))) + (3 + r3))) (((setI (setI m4 21 9 0 (ix (((9 + (40 * (irm r1 4))) + (4 * (r1 / 16))) + (irm (r1 / 4) 4))) (-2)) 21 9 0 (ix ((169 + (7 * (irm r1 4))) + (0 : Int32))) (((setI m4 21 9 0 (ix (((9 + (40 * (irm r1 4))) + (4 * (r1 / 16))) + (irm (r1 / 4) 4))) (-2)).1 9 21 0 (ix ((169 + (7 * (irm r1 4))) + (0 : Int32)))) + 1)).1 9 21 0 (ix ((169 + (7 * (irm r1 4))) + (3 + r3)))) + 1)) 21 9 0 (ix ((197 + (12 * x1)) + (3 : Int32))) r3) 21 9 0 (ix ((197 + (12 * x1)) + (4 : Int32))) (irm r1 4)) 21 9 0 (ix ((197 + (12 * x1)) + (1 : Int32))) (((setI (setI (setI (setI (setI m4 21 9 0 (ix (((9 + (40 * (irm r1 4))) + (4 * (r1 / 16))) + (irm (r1 / 4) 4))) (-2)) 21 9 0 (ix ((169 + (7 * (irm r1 4))) + (0 : Int32))) (((setI m4 21 9 0 (ix (((9 + (40 * (irm r1 4))) + (4 * (r1 / 16))) + (irm (r1 / 4) 4))) (-2)).1 9 21 0 (ix ((169 + (7 * (irm r1 4))) + (0 : Int32)))) + 1)) 21 9 0 (ix ((169 + (7 * (irm r1 4))) + (3 + r3))) (((setI (setI m4 21 9 0 (ix (((9 + (40 * (irm r1 4))) + (4 * (r1 / 16))) + (irm (r1 / 4) 4))) (-2)) 21 9 0 (ix ((169 + (7 * (irm r1 4))) + (0 : Int32))) (((setI m4 21 9 0 (ix (((9 + (40 * (irm r1 4))) + (4 * (r1 / 16))) + (irm (r1 / 4) 4))) (-2)).1 9 21 0 (ix ((169 + (7 * (irm r1 4))) + (0 : Int32)))) + 1)).1 9 21 0 (ix ((169 + (7 * (irm r1 4))) + (3 + r3)))) + 1)) 21 9 0 (ix ((197 + (12 * x1)) + (3 : Int32))) r3) 21 9 0 (ix ((197 + (12 * x1)) + (4 : Int32))) (irm r1 4)).1 9 21 0 (ix ((197 + (12 * x1)) + (1 : Int32)))) + 1)) 21 9 0 (ix ((197 + (12 * x1)) + (0 : Int32))) 0) 21 9 0 (ix ((197 + (12 * x1)) + (2 : Int32))) (((setI (setI (setI (setI (setI (setI (setI m4 21 9 0 (ix (((9 + (40 * (irm r1 4))) + (4 * (r1 / 16))) + (irm (r1 / 4) 4))) (-2)) 21 9 0 (ix ((169 + (7 * (irm r1 4))) + (0 : Int32))) (((setI m4 21 9 0 (ix (((9 + (40 * (irm r1 4))) + (4 * (r1 / 16))) + (irm (r1 / 4) 4))) (-2)).1 9 21 0 (ix ((169 + (7 * (irm r1 4))) + (0 : Int32)))) + 1)) 21 9 0 (ix ((169 + (7 * (irm r1 4))) + (3 + r3))) (((setI (setI m4 21 9 0 (ix (((9 + (40 * (irm r1 4))) + (4 * (r1 / 16))) + (irm (r1 / 4) 4))) (-2)) 21 9 0 (ix ((169 + (7 * (irm r1 4))) + (0 : Int32))) (((setI m4 21 9 0 (ix (((9 + (40 * (irm r1 4))) + (4 * (r1 / 16))) + (irm (r1 / 4) 4))) (-2)).1 9 21 0 (ix ((169 + (7 * (irm r1 4))) + (0 : Int32)))) + 1)).1 9 21 0 (ix ((169 + (7 * (irm r1 4))) + (3 + r3)))) + 1)) 21 9 0 (ix ((197 + (12 * x1)) + (3 : Int32))) r3) 21 9 0 (ix ((197 + (12 * x1)) + (4 : Int32))) (irm r1 4)) 21 9 0 (ix ((197 + (12 * x1)) + (1 : Int32))) (((setI (setI (setI (setI (setI m4 21 9 0 (ix (((9 + (40 * (irm r1 4))) + (4 * (r1 / 16))) + (irm (r1 / 4) 4))) (-2)) 21 9 0 (ix ((169 + (7 * (irm r1 4))) + (0 : Int32))) (((setI m4 21 9 0 (ix (((9 + (40 * (irm r1 4))) + (4 * (r1 / 16))) + (irm (r1 / 4) 4))) (-2)).1 9 21 0 (ix ((169 + (7 * (irm r1 4))) + (0 : Int32)))) + 1)) 21 9 0 (ix ((169 + (7 * (irm r1 4))) + (3 + r3))) (((setI (setI m4 21 9 0 (ix (((9 + (40 * (irm r1 4))) + (4 * (r1 / 16))) + (irm (r1 / 4) 4))) (-2)) 21 9 0 (ix ((169 + (7 * (irm r1 4))) + (0 : Int32))) (((setI m4 21 9 0 (ix (((9 + (40 * (irm r1 4))) + (4 * (r1 / 16))) + (irm (r1 / 4) 4))) (-2)).1 9 21 0 (ix ((169 + (7 * (irm r1 4))) + (0 : Int32)))) + 1)).1 9 21 0 (ix ((169 + (7 * (irm r1 4))) + (3 + r3)))) + 1)) 21 9 0 (ix ((197 + (12 * x1)) + (3 : Int32))) r3) 21 9 0 (ix ((197 + (12 * x1)) + (4 : Int32))) (irm r1 4)).1 9 21 0 (ix ((197 + (12 * x1)) + (1 : Int32)))) + 1)) 21 9 0 (ix ((197 + (12 * x1)) + (0 : Int32))) 0).1 9 21 0 (ix 0)) + 60)) c n)))))))) ∧ (¬ x2 = 0 → (vp_in ((169 + (7 * (irm r1 4))) + (1 : Int32)) 341 ∧ (vp_in ((169 + (7 * (irm r1 4))) + (1 : Int32)) 341 ∧ (vp_in ((197 + (12 * x1)) + (0 : Int32)) 341 ∧ Q (.inl (some (pI r3))) (setI (setI (setI (setI (setI (setI (setI m4 21 9 0 (ix (((9 + (40 * (irm r1 4))) + (4 * (r1 / 16))) + (irm (r1 / 4) 4))) (-2)) 21 9 0 (ix ((169 + (7 * (irm r1 4))) + (0 : Int32))) (((setI m4 21 9 0 (ix (((9 + (40 * (irm r1 4))) + (4 * (r1 / 16))) + (irm (r1 / 4) 4))) (-2)).1 9 21 0 (ix ((169 + (7 * (irm r1 4))) + (0 : Int32)))) + 1)) 21 9 0 (ix ((169 + (7 * (irm r1 4))) + (3 + r3))) (((setI (setI m4 21 9 0 (ix (((9 + (40 * (irm r1 4))) + (4 * (r1 / 16))) + (irm (r1 / 4) 4))) (-2)) 21 9 0 (ix ((169 + (7 * (irm r1 4))) + (0 : Int32))) (((setI m4 21 9 0 (ix (((9 + (40 * (irm r1 4))) + (4 * (r1 / 16))) + (irm (r1 / 4) 4))) (-2)).1 9 21 0 (ix ((169 + (7 * (irm r1 4))) + (0 : Int32)))) + 1)).1 9 21 0 (ix ((169 + (7 * (irm r1 4))) + (3 + r3)))) + 1)) 21 9 0 (ix ((197 + (12 * x1)) + (3 : Int32))) r3) 21 9 0 (ix ((197 + (12 * x1)) + (4 : Int32))) (irm r1 4)) 21 9 0 (ix ((169 + (7 * (irm r1 4))) + (1 : Int32))) (((setI (setI (setI (setI (setI m4 21 9 0 (ix (((9 + (40 * (irm r1 4))) + (4 * (r1 / 16))) + (irm (r1 / 4) 4))) (-2)) 21 9 0 (ix ((169 + (7 * (irm r1 4))) + (0 : Int32))) (((setI m4 21 9 0 (ix (((9 + (40 * (irm r1 4))) + (4 * (r1 / 16))) + (irm (r1 / 4) 4))) (-2)).1 9 21 0 (ix ((169 + (7 * (irm r1 4))) + (0 : Int32)))) + 1)) 21 9 0 (ix ((169 + (7 * (irm r1 4))) + (3 + r3))) (((setI (setI m4 21 9 0 (ix (((9 + (40 * (irm r1 4))) + (4 * (r1 / 16))) + (irm (r1 / 4) 4))) (-2)) 21 9 0 (ix ((169 + (7 * (irm r1 4))) + (0 : Int32))) (((setI m4 21 9 0 (ix (((9 + (40 * (irm r1 4))) + (4 * (r1 / 16))) + (irm (r1 / 4) 4))) (-2)).1 9 21 0 (ix ((169 + (7 * (irm r1 4))) + (0 : Int32)))) + 1)).1 9 21 0 (ix ((169 + (7 * (irm r1 4))) + (3 + r3)))) + 1)) 21 9 0 (ix ((197 + (12 * x1)) + (3 : Int32))) r3) 21 9 0 (ix ((197 + (12 * x1)) + (4 : Int32))) (irm r1 4)).1 9 21 0 (ix ((169 + (7 * (irm r1 4))) + (1 : Int32)))) + 1)) 21 9 0 (ix ((197 + (12 * x1)) + (0 : Int32))) 3) c n))))))))))))))) : Wq g (d + 3) MX5_tests c n 0 [some (pO 20 9 0), some (pI x1), some (pI x2)] [] m Q := by
  refine Wq.few (ls' := [some (pO 20 9 0), some (pI x1), some (pI x2), none, none, none, none]) ⟨rfl, ⟨rfl, ⟨rfl, trivial⟩⟩⟩ ?_
  refine Wq.aload_n (t := 20) (r := 9) (j := 0) dX5_tests_0 rfl ?_
  refine Wq.iload_n (x := x1) dX5_tests_1 rfl ?_
  refine Wq.callVI (As := [pI x1]) dX5_tests_2 fX5_slotBy ml_X5_106 rfl (by decide) rfl (Nat.le_of_ble_eq_true rfl) (Nat.le_of_ble_eq_true rfl) h (fun r1 m2 h => ?_)
  refine Wq.istore_n (ls2 := [some (pO 20 9 0), some (pI x1), some (pI x2), some (pI r1), none, none, none]) dX5_tests_5 (by decide) rfl ?_
  refine Wq.iload_n (x := r1) dX5_tests_6 rfl ?_
  refine Wq.callSI (As := [pI r1]) dX5_tests_7 fX5_examinerOf ml_X5_52 rfl (Nat.le_of_ble_eq_true rfl) (Nat.le_of_ble_eq_true rfl) (suX5_examinerOf trivial) (fun x18 m9 e9 => ?_)
  obtain ⟨rfl, rfl⟩ := e9
  refine Wq.istore (ls2 := [some (pO 20 9 0), some (pI x1), some (pI x2), some (pI r1), some (pI (irm r1 4)), none, none]) dX5_tests_10 (by decide) rfl ?_
  refine Wq.aload_n (t := 20) (r := 9) (j := 0) dX5_tests_12 rfl ?_
  refine Wq.iload_n (x := x1) dX5_tests_13 rfl ?_
  refine Wq.iload (x := (irm r1 4)) dX5_tests_14 rfl ?_
  refine Wq.callVI (As := [pI x1, pI (irm r1 4)]) dX5_tests_16 fX5_routeFor ml_X5_130 rfl (by decide) rfl (Nat.le_of_ble_eq_true rfl) (Nat.le_of_ble_eq_true rfl) h (fun r3 m4 h => ?_)
  refine Wq.istore (ls2 := [some (pO 20 9 0), some (pI x1), some (pI x2), some (pI r1), some (pI (irm r1 4)), some (pI r3), none]) dX5_tests_19 (by decide) rfl ?_
  refine Wq.aload_n (t := 20) (r := 9) (j := 0) dX5_tests_21 rfl ?_
  refine Wq.getf (v := pO 21 9 0) dX5_tests_22 fl_X5_7 ⟨rfl, rfl, by decide⟩ rfl ?_
  refine Wq.iload_n (x := r1) dX5_tests_25 rfl ?_
  refine Wq.callSI (As := [pI r1]) dX5_tests_26 fX5_placeOf ml_X5_66 rfl (Nat.le_of_ble_eq_true rfl) (Nat.le_of_ble_eq_true rfl) (suX5_placeOf trivial) (fun x17 m9 e9 => ?_)
  obtain ⟨rfl, rfl⟩ := e9
  refine Wq.bipush (v := (-2)) dX5_tests_29 (by decide) ?_
  refine Wq.iast dX5_tests_31 rfl h.1 ?_
  replace h := h.2
  refine Wq.aload_n (t := 20) (r := 9) (j := 0) dX5_tests_32 rfl ?_
  refine Wq.getf (v := pO 21 9 0) dX5_tests_33 fl_X5_7 ⟨rfl, rfl, by decide⟩ rfl ?_
  refine Wq.iload (x := (irm r1 4)) dX5_tests_36 rfl ?_
  refine Wq.iconst (v := 0) dX5_tests_38 (by decide) ?_
  refine Wq.callSI (As := [pI (irm r1 4), pI 0]) dX5_tests_39 fX5_ofExaminer ml_X5_93 rfl (Nat.le_of_ble_eq_true rfl) (Nat.le_of_ble_eq_true rfl) (suX5_ofExaminer trivial) (fun x16 m9 e9 => ?_)
  obtain ⟨rfl, rfl⟩ := e9
  refine Wq.dup2 dX5_tests_42 rfl rfl ?_
  refine Wq.iald dX5_tests_43 rfl h.1 ?_
  replace h := h.2
  refine Wq.iconst (v := 1) dX5_tests_44 (by decide) ?_
  refine Wq.iadd dX5_tests_45 ?_
  refine Wq.iast dX5_tests_46 rfl h.1 ?_
  replace h := h.2
  refine Wq.aload_n (t := 20) (r := 9) (j := 0) dX5_tests_47 rfl ?_
  refine Wq.getf (v := pO 21 9 0) dX5_tests_48 fl_X5_7 ⟨rfl, rfl, by decide⟩ rfl ?_
  refine Wq.iload (x := (irm r1 4)) dX5_tests_51 rfl ?_
  refine Wq.iconst (v := 3) dX5_tests_53 (by decide) ?_
  refine Wq.iload (x := r3) dX5_tests_54 rfl ?_
  refine Wq.iadd dX5_tests_56 ?_
  refine Wq.callSI (As := [pI (irm r1 4), pI (3 + r3)]) dX5_tests_57 fX5_ofExaminer ml_X5_93 rfl (Nat.le_of_ble_eq_true rfl) (Nat.le_of_ble_eq_true rfl) (suX5_ofExaminer trivial) (fun x15 m9 e9 => ?_)
  obtain ⟨rfl, rfl⟩ := e9
  refine Wq.dup2 dX5_tests_60 rfl rfl ?_
  refine Wq.iald dX5_tests_61 rfl h.1 ?_
  replace h := h.2
  refine Wq.iconst (v := 1) dX5_tests_62 (by decide) ?_
  refine Wq.iadd dX5_tests_63 ?_
  refine Wq.iast dX5_tests_64 rfl h.1 ?_
  replace h := h.2
  refine Wq.aload_n (t := 20) (r := 9) (j := 0) dX5_tests_65 rfl ?_
  refine Wq.getf (v := pO 21 9 0) dX5_tests_66 fl_X5_7 ⟨rfl, rfl, by decide⟩ rfl ?_
  refine Wq.iload_n (x := x1) dX5_tests_69 rfl ?_
  refine Wq.iconst (v := 3) dX5_tests_70 (by decide) ?_
  refine Wq.callSI (As := [pI x1, pI 3]) dX5_tests_71 fX5_of ml_X5_69 rfl (Nat.le_of_ble_eq_true rfl) (Nat.le_of_ble_eq_true rfl) (suX5_of trivial) (fun x14 m9 e9 => ?_)
  obtain ⟨rfl, rfl⟩ := e9
  refine Wq.iload (x := r3) dX5_tests_74 rfl ?_
  refine Wq.iast dX5_tests_76 rfl h.1 ?_
  replace h := h.2
  refine Wq.aload_n (t := 20) (r := 9) (j := 0) dX5_tests_77 rfl ?_
  refine Wq.getf (v := pO 21 9 0) dX5_tests_78 fl_X5_7 ⟨rfl, rfl, by decide⟩ rfl ?_
  refine Wq.iload_n (x := x1) dX5_tests_81 rfl ?_
  refine Wq.iconst (v := 4) dX5_tests_82 (by decide) ?_
  refine Wq.callSI (As := [pI x1, pI 4]) dX5_tests_83 fX5_of ml_X5_69 rfl (Nat.le_of_ble_eq_true rfl) (Nat.le_of_ble_eq_true rfl) (suX5_of trivial) (fun x13 m9 e9 => ?_)
  obtain ⟨rfl, rfl⟩ := e9
  refine Wq.iload (x := (irm r1 4)) dX5_tests_86 rfl ?_
  refine Wq.iast dX5_tests_88 rfl h.1 ?_
  replace h := h.2
  refine Wq.iload_n (x := x2) dX5_tests_89 rfl ?_
  refine Wq.ifeq (tgt := 122) dX5_tests_90 (by decide) (fun q5 => ?_) (fun q5 => ?_)
  · replace h := h.1 q5
    refine Wq.aload_n (t := 20) (r := 9) (j := 0) dX5_tests_122 rfl ?_
    refine Wq.getf (v := pO 21 9 0) dX5_tests_123 fl_X5_7 ⟨rfl, rfl, by decide⟩ rfl ?_
    refine Wq.iload_n (x := x1) dX5_tests_126 rfl ?_
    refine Wq.iconst (v := 1) dX5_tests_127 (by decide) ?_
    refine Wq.callSI (As := [pI x1, pI 1]) dX5_tests_128 fX5_of ml_X5_69 rfl (Nat.le_of_ble_eq_true rfl) (Nat.le_of_ble_eq_true rfl) (suX5_of trivial) (fun x10 m9 e9 => ?_)
    obtain ⟨rfl, rfl⟩ := e9
    refine Wq.dup2 dX5_tests_131 rfl rfl ?_
    refine Wq.iald dX5_tests_132 rfl h.1 ?_
    replace h := h.2
    refine Wq.iconst (v := 1) dX5_tests_133 (by decide) ?_
    refine Wq.iadd dX5_tests_134 ?_
    refine Wq.iast dX5_tests_135 rfl h.1 ?_
    replace h := h.2
    refine Wq.aload_n (t := 20) (r := 9) (j := 0) dX5_tests_136 rfl ?_
    refine Wq.getf (v := pO 21 9 0) dX5_tests_137 fl_X5_7 ⟨rfl, rfl, by decide⟩ rfl ?_
    refine Wq.iload_n (x := x1) dX5_tests_140 rfl ?_
    refine Wq.iconst (v := 0) dX5_tests_141 (by decide) ?_
    refine Wq.callSI (As := [pI x1, pI 0]) dX5_tests_142 fX5_of ml_X5_69 rfl (Nat.le_of_ble_eq_true rfl) (Nat.le_of_ble_eq_true rfl) (suX5_of trivial) (fun x9 m9 e9 => ?_)
    obtain ⟨rfl, rfl⟩ := e9
    refine Wq.iconst (v := 0) dX5_tests_145 (by decide) ?_
    refine Wq.iast dX5_tests_146 rfl h.1 ?_
    replace h := h.2
    refine Wq.aload_n (t := 20) (r := 9) (j := 0) dX5_tests_147 rfl ?_
    refine Wq.getf (v := pO 21 9 0) dX5_tests_148 fl_X5_7 ⟨rfl, rfl, by decide⟩ rfl ?_
    refine Wq.iconst (v := 5) dX5_tests_151 (by decide) ?_
    refine Wq.iald dX5_tests_152 rfl (vp_dec rfl) ?_
    refine Wq.aload_n (t := 20) (r := 9) (j := 0) dX5_tests_153 rfl ?_
    refine Wq.getf (v := pO 21 9 0) dX5_tests_154 fl_X5_7 ⟨rfl, rfl, by decide⟩ rfl ?_
    refine Wq.iload_n (x := x1) dX5_tests_157 rfl ?_
    refine Wq.iconst (v := 1) dX5_tests_158 (by decide) ?_
    refine Wq.callSI (As := [pI x1, pI 1]) dX5_tests_159 fX5_of ml_X5_69 rfl (Nat.le_of_ble_eq_true rfl) (Nat.le_of_ble_eq_true rfl) (suX5_of trivial) (fun x8 m9 e9 => ?_)
    obtain ⟨rfl, rfl⟩ := e9
    refine Wq.iald dX5_tests_162 rfl h.1 ?_
    replace h := h.2
    refine Wq.imul dX5_tests_163 ?_
    refine Wq.istore (ls2 := [some (pO 20 9 0), some (pI x1), some (pI x2), some (pI r1), some (pI (irm r1 4)), some (pI r3), some (pI (((setI (setI (setI (setI (setI (setI (setI m4 21 9 0 (ix (((9 + (40 * (irm r1 4))) + (4 * (r1 / 16))) + (irm (r1 / 4) 4))) (-2)) 21 9 0 (ix ((169 + (7 * (irm r1 4))) + (0 : Int32))) (((setI m4 21 9 0 (ix (((9 + (40 * (irm r1 4))) + (4 * (r1 / 16))) + (irm (r1 / 4) 4))) (-2)).1 9 21 0 (ix ((169 + (7 * (irm r1 4))) + (0 : Int32)))) + 1)) 21 9 0 (ix ((169 + (7 * (irm r1 4))) + (3 + r3))) (((setI (setI m4 21 9 0 (ix (((9 + (40 * (irm r1 4))) + (4 * (r1 / 16))) + (irm (r1 / 4) 4))) (-2)) 21 9 0 (ix ((169 + (7 * (irm r1 4))) + (0 : Int32))) (((setI m4 21 9 0 (ix (((9 + (40 * (irm r1 4))) + (4 * (r1 / 16))) + (irm (r1 / 4) 4))) (-2)).1 9 21 0 (ix ((169 + (7 * (irm r1 4))) + (0 : Int32)))) + 1)).1 9 21 0 (ix ((169 + (7 * (irm r1 4))) + (3 + r3)))) + 1)) 21 9 0 (ix ((197 + (12 * x1)) + (3 : Int32))) r3) 21 9 0 (ix ((197 + (12 * x1)) + (4 : Int32))) (irm r1 4)) 21 9 0 (ix ((197 + (12 * x1)) + (1 : Int32))) (((setI (setI (setI (setI (setI m4 21 9 0 (ix (((9 + (40 * (irm r1 4))) + (4 * (r1 / 16))) + (irm (r1 / 4) 4))) (-2)) 21 9 0 (ix ((169 + (7 * (irm r1 4))) + (0 : Int32))) (((setI m4 21 9 0 (ix (((9 + (40 * (irm r1 4))) + (4 * (r1 / 16))) + (irm (r1 / 4) 4))) (-2)).1 9 21 0 (ix ((169 + (7 * (irm r1 4))) + (0 : Int32)))) + 1)) 21 9 0 (ix ((169 + (7 * (irm r1 4))) + (3 + r3))) (((setI (setI m4 21 9 0 (ix (((9 + (40 * (irm r1 4))) + (4 * (r1 / 16))) + (irm (r1 / 4) 4))) (-2)) 21 9 0 (ix ((169 + (7 * (irm r1 4))) + (0 : Int32))) (((setI m4 21 9 0 (ix (((9 + (40 * (irm r1 4))) + (4 * (r1 / 16))) + (irm (r1 / 4) 4))) (-2)).1 9 21 0 (ix ((169 + (7 * (irm r1 4))) + (0 : Int32)))) + 1)).1 9 21 0 (ix ((169 + (7 * (irm r1 4))) + (3 + r3)))) + 1)) 21 9 0 (ix ((197 + (12 * x1)) + (3 : Int32))) r3) 21 9 0 (ix ((197 + (12 * x1)) + (4 : Int32))) (irm r1 4)).1 9 21 0 (ix ((197 + (12 * x1)) + (1 : Int32)))) + 1)) 21 9 0 (ix ((197 + (12 * x1)) + (0 : Int32))) 0).1 9 21 0 (ix 5)) * ((setI (setI (setI (setI (setI (setI (setI m4 21 9 0 (ix (((9 + (40 * (irm r1 4))) + (4 * (r1 / 16))) + (irm (r1 / 4) 4))) (-2)) 21 9 0 (ix ((169 + (7 * (irm r1 4))) + (0 : Int32))) (((setI m4 21 9 0 (ix (((9 + (40 * (irm r1 4))) + (4 * (r1 / 16))) + (irm (r1 / 4) 4))) (-2)).1 9 21 0 (ix ((169 + (7 * (irm r1 4))) + (0 : Int32)))) + 1)) 21 9 0 (ix ((169 + (7 * (irm r1 4))) + (3 + r3))) (((setI (setI m4 21 9 0 (ix (((9 + (40 * (irm r1 4))) + (4 * (r1 / 16))) + (irm (r1 / 4) 4))) (-2)) 21 9 0 (ix ((169 + (7 * (irm r1 4))) + (0 : Int32))) (((setI m4 21 9 0 (ix (((9 + (40 * (irm r1 4))) + (4 * (r1 / 16))) + (irm (r1 / 4) 4))) (-2)).1 9 21 0 (ix ((169 + (7 * (irm r1 4))) + (0 : Int32)))) + 1)).1 9 21 0 (ix ((169 + (7 * (irm r1 4))) + (3 + r3)))) + 1)) 21 9 0 (ix ((197 + (12 * x1)) + (3 : Int32))) r3) 21 9 0 (ix ((197 + (12 * x1)) + (4 : Int32))) (irm r1 4)) 21 9 0 (ix ((197 + (12 * x1)) + (1 : Int32))) (((setI (setI (setI (setI (setI m4 21 9 0 (ix (((9 + (40 * (irm r1 4))) + (4 * (r1 / 16))) + (irm (r1 / 4) 4))) (-2)) 21 9 0 (ix ((169 + (7 * (irm r1 4))) + (0 : Int32))) (((setI m4 21 9 0 (ix (((9 + (40 * (irm r1 4))) + (4 * (r1 / 16))) + (irm (r1 / 4) 4))) (-2)).1 9 21 0 (ix ((169 + (7 * (irm r1 4))) + (0 : Int32)))) + 1)) 21 9 0 (ix ((169 + (7 * (irm r1 4))) + (3 + r3))) (((setI (setI m4 21 9 0 (ix (((9 + (40 * (irm r1 4))) + (4 * (r1 / 16))) + (irm (r1 / 4) 4))) (-2)) 21 9 0 (ix ((169 + (7 * (irm r1 4))) + (0 : Int32))) (((setI m4 21 9 0 (ix (((9 + (40 * (irm r1 4))) + (4 * (r1 / 16))) + (irm (r1 / 4) 4))) (-2)).1 9 21 0 (ix ((169 + (7 * (irm r1 4))) + (0 : Int32)))) + 1)).1 9 21 0 (ix ((169 + (7 * (irm r1 4))) + (3 + r3)))) + 1)) 21 9 0 (ix ((197 + (12 * x1)) + (3 : Int32))) r3) 21 9 0 (ix ((197 + (12 * x1)) + (4 : Int32))) (irm r1 4)).1 9 21 0 (ix ((197 + (12 * x1)) + (1 : Int32)))) + 1)) 21 9 0 (ix ((197 + (12 * x1)) + (0 : Int32))) 0).1 9 21 0 (ix ((197 + (12 * x1)) + (1 : Int32))))))]) dX5_tests_164 (by decide) rfl ?_
    refine Wq.aload_n (t := 20) (r := 9) (j := 0) dX5_tests_166 rfl ?_
    refine Wq.getf (v := pO 21 9 0) dX5_tests_167 fl_X5_7 ⟨rfl, rfl, by decide⟩ rfl ?_
    refine Wq.iload_n (x := x1) dX5_tests_170 rfl ?_
    refine Wq.iconst (v := 2) dX5_tests_171 (by decide) ?_
    refine Wq.callSI (As := [pI x1, pI 2]) dX5_tests_172 fX5_of ml_X5_69 rfl (Nat.le_of_ble_eq_true rfl) (Nat.le_of_ble_eq_true rfl) (suX5_of trivial) (fun x7 m9 e9 => ?_)
    obtain ⟨rfl, rfl⟩ := e9
    refine Wq.aload_n (t := 20) (r := 9) (j := 0) dX5_tests_175 rfl ?_
    refine Wq.getf (v := pO 21 9 0) dX5_tests_176 fl_X5_7 ⟨rfl, rfl, by decide⟩ rfl ?_
    refine Wq.iconst (v := 0) dX5_tests_179 (by decide) ?_
    refine Wq.iald dX5_tests_180 rfl (vp_dec rfl) ?_
    refine Wq.iload (x := (((setI (setI (setI (setI (setI (setI (setI m4 21 9 0 (ix (((9 + (40 * (irm r1 4))) + (4 * (r1 / 16))) + (irm (r1 / 4) 4))) (-2)) 21 9 0 (ix ((169 + (7 * (irm r1 4))) + (0 : Int32))) (((setI m4 21 9 0 (ix (((9 + (40 * (irm r1 4))) + (4 * (r1 / 16))) + (irm (r1 / 4) 4))) (-2)).1 9 21 0 (ix ((169 + (7 * (irm r1 4))) + (0 : Int32)))) + 1)) 21 9 0 (ix ((169 + (7 * (irm r1 4))) + (3 + r3))) (((setI (setI m4 21 9 0 (ix (((9 + (40 * (irm r1 4))) + (4 * (r1 / 16))) + (irm (r1 / 4) 4))) (-2)) 21 9 0 (ix ((169 + (7 * (irm r1 4))) + (0 : Int32))) (((setI m4 21 9 0 (ix (((9 + (40 * (irm r1 4))) + (4 * (r1 / 16))) + (irm (r1 / 4) 4))) (-2)).1 9 21 0 (ix ((169 + (7 * (irm r1 4))) + (0 : Int32)))) + 1)).1 9 21 0 (ix ((169 + (7 * (irm r1 4))) + (3 + r3)))) + 1)) 21 9 0 (ix ((197 + (12 * x1)) + (3 : Int32))) r3) 21 9 0 (ix ((197 + (12 * x1)) + (4 : Int32))) (irm r1 4)) 21 9 0 (ix ((197 + (12 * x1)) + (1 : Int32))) (((setI (setI (setI (setI (setI m4 21 9 0 (ix (((9 + (40 * (irm r1 4))) + (4 * (r1 / 16))) + (irm (r1 / 4) 4))) (-2)) 21 9 0 (ix ((169 + (7 * (irm r1 4))) + (0 : Int32))) (((setI m4 21 9 0 (ix (((9 + (40 * (irm r1 4))) + (4 * (r1 / 16))) + (irm (r1 / 4) 4))) (-2)).1 9 21 0 (ix ((169 + (7 * (irm r1 4))) + (0 : Int32)))) + 1)) 21 9 0 (ix ((169 + (7 * (irm r1 4))) + (3 + r3))) (((setI (setI m4 21 9 0 (ix (((9 + (40 * (irm r1 4))) + (4 * (r1 / 16))) + (irm (r1 / 4) 4))) (-2)) 21 9 0 (ix ((169 + (7 * (irm r1 4))) + (0 : Int32))) (((setI m4 21 9 0 (ix (((9 + (40 * (irm r1 4))) + (4 * (r1 / 16))) + (irm (r1 / 4) 4))) (-2)).1 9 21 0 (ix ((169 + (7 * (irm r1 4))) + (0 : Int32)))) + 1)).1 9 21 0 (ix ((169 + (7 * (irm r1 4))) + (3 + r3)))) + 1)) 21 9 0 (ix ((197 + (12 * x1)) + (3 : Int32))) r3) 21 9 0 (ix ((197 + (12 * x1)) + (4 : Int32))) (irm r1 4)).1 9 21 0 (ix ((197 + (12 * x1)) + (1 : Int32)))) + 1)) 21 9 0 (ix ((197 + (12 * x1)) + (0 : Int32))) 0).1 9 21 0 (ix 5)) * ((setI (setI (setI (setI (setI (setI (setI m4 21 9 0 (ix (((9 + (40 * (irm r1 4))) + (4 * (r1 / 16))) + (irm (r1 / 4) 4))) (-2)) 21 9 0 (ix ((169 + (7 * (irm r1 4))) + (0 : Int32))) (((setI m4 21 9 0 (ix (((9 + (40 * (irm r1 4))) + (4 * (r1 / 16))) + (irm (r1 / 4) 4))) (-2)).1 9 21 0 (ix ((169 + (7 * (irm r1 4))) + (0 : Int32)))) + 1)) 21 9 0 (ix ((169 + (7 * (irm r1 4))) + (3 + r3))) (((setI (setI m4 21 9 0 (ix (((9 + (40 * (irm r1 4))) + (4 * (r1 / 16))) + (irm (r1 / 4) 4))) (-2)) 21 9 0 (ix ((169 + (7 * (irm r1 4))) + (0 : Int32))) (((setI m4 21 9 0 (ix (((9 + (40 * (irm r1 4))) + (4 * (r1 / 16))) + (irm (r1 / 4) 4))) (-2)).1 9 21 0 (ix ((169 + (7 * (irm r1 4))) + (0 : Int32)))) + 1)).1 9 21 0 (ix ((169 + (7 * (irm r1 4))) + (3 + r3)))) + 1)) 21 9 0 (ix ((197 + (12 * x1)) + (3 : Int32))) r3) 21 9 0 (ix ((197 + (12 * x1)) + (4 : Int32))) (irm r1 4)) 21 9 0 (ix ((197 + (12 * x1)) + (1 : Int32))) (((setI (setI (setI (setI (setI m4 21 9 0 (ix (((9 + (40 * (irm r1 4))) + (4 * (r1 / 16))) + (irm (r1 / 4) 4))) (-2)) 21 9 0 (ix ((169 + (7 * (irm r1 4))) + (0 : Int32))) (((setI m4 21 9 0 (ix (((9 + (40 * (irm r1 4))) + (4 * (r1 / 16))) + (irm (r1 / 4) 4))) (-2)).1 9 21 0 (ix ((169 + (7 * (irm r1 4))) + (0 : Int32)))) + 1)) 21 9 0 (ix ((169 + (7 * (irm r1 4))) + (3 + r3))) (((setI (setI m4 21 9 0 (ix (((9 + (40 * (irm r1 4))) + (4 * (r1 / 16))) + (irm (r1 / 4) 4))) (-2)) 21 9 0 (ix ((169 + (7 * (irm r1 4))) + (0 : Int32))) (((setI m4 21 9 0 (ix (((9 + (40 * (irm r1 4))) + (4 * (r1 / 16))) + (irm (r1 / 4) 4))) (-2)).1 9 21 0 (ix ((169 + (7 * (irm r1 4))) + (0 : Int32)))) + 1)).1 9 21 0 (ix ((169 + (7 * (irm r1 4))) + (3 + r3)))) + 1)) 21 9 0 (ix ((197 + (12 * x1)) + (3 : Int32))) r3) 21 9 0 (ix ((197 + (12 * x1)) + (4 : Int32))) (irm r1 4)).1 9 21 0 (ix ((197 + (12 * x1)) + (1 : Int32)))) + 1)) 21 9 0 (ix ((197 + (12 * x1)) + (0 : Int32))) 0).1 9 21 0 (ix ((197 + (12 * x1)) + (1 : Int32)))))) dX5_tests_181 rfl ?_
    refine Wq.bipush (v := 60) dX5_tests_183 (by decide) ?_
    refine Wq.icmple (tgt := 193) dX5_tests_185 (by decide) (fun q6 => ?_) (fun q6 => ?_)
    · replace h := h.1 q6
      refine Wq.iload (x := (((setI (setI (setI (setI (setI (setI (setI m4 21 9 0 (ix (((9 + (40 * (irm r1 4))) + (4 * (r1 / 16))) + (irm (r1 / 4) 4))) (-2)) 21 9 0 (ix ((169 + (7 * (irm r1 4))) + (0 : Int32))) (((setI m4 21 9 0 (ix (((9 + (40 * (irm r1 4))) + (4 * (r1 / 16))) + (irm (r1 / 4) 4))) (-2)).1 9 21 0 (ix ((169 + (7 * (irm r1 4))) + (0 : Int32)))) + 1)) 21 9 0 (ix ((169 + (7 * (irm r1 4))) + (3 + r3))) (((setI (setI m4 21 9 0 (ix (((9 + (40 * (irm r1 4))) + (4 * (r1 / 16))) + (irm (r1 / 4) 4))) (-2)) 21 9 0 (ix ((169 + (7 * (irm r1 4))) + (0 : Int32))) (((setI m4 21 9 0 (ix (((9 + (40 * (irm r1 4))) + (4 * (r1 / 16))) + (irm (r1 / 4) 4))) (-2)).1 9 21 0 (ix ((169 + (7 * (irm r1 4))) + (0 : Int32)))) + 1)).1 9 21 0 (ix ((169 + (7 * (irm r1 4))) + (3 + r3)))) + 1)) 21 9 0 (ix ((197 + (12 * x1)) + (3 : Int32))) r3) 21 9 0 (ix ((197 + (12 * x1)) + (4 : Int32))) (irm r1 4)) 21 9 0 (ix ((197 + (12 * x1)) + (1 : Int32))) (((setI (setI (setI (setI (setI m4 21 9 0 (ix (((9 + (40 * (irm r1 4))) + (4 * (r1 / 16))) + (irm (r1 / 4) 4))) (-2)) 21 9 0 (ix ((169 + (7 * (irm r1 4))) + (0 : Int32))) (((setI m4 21 9 0 (ix (((9 + (40 * (irm r1 4))) + (4 * (r1 / 16))) + (irm (r1 / 4) 4))) (-2)).1 9 21 0 (ix ((169 + (7 * (irm r1 4))) + (0 : Int32)))) + 1)) 21 9 0 (ix ((169 + (7 * (irm r1 4))) + (3 + r3))) (((setI (setI m4 21 9 0 (ix (((9 + (40 * (irm r1 4))) + (4 * (r1 / 16))) + (irm (r1 / 4) 4))) (-2)) 21 9 0 (ix ((169 + (7 * (irm r1 4))) + (0 : Int32))) (((setI m4 21 9 0 (ix (((9 + (40 * (irm r1 4))) + (4 * (r1 / 16))) + (irm (r1 / 4) 4))) (-2)).1 9 21 0 (ix ((169 + (7 * (irm r1 4))) + (0 : Int32)))) + 1)).1 9 21 0 (ix ((169 + (7 * (irm r1 4))) + (3 + r3)))) + 1)) 21 9 0 (ix ((197 + (12 * x1)) + (3 : Int32))) r3) 21 9 0 (ix ((197 + (12 * x1)) + (4 : Int32))) (irm r1 4)).1 9 21 0 (ix ((197 + (12 * x1)) + (1 : Int32)))) + 1)) 21 9 0 (ix ((197 + (12 * x1)) + (0 : Int32))) 0).1 9 21 0 (ix 5)) * ((setI (setI (setI (setI (setI (setI (setI m4 21 9 0 (ix (((9 + (40 * (irm r1 4))) + (4 * (r1 / 16))) + (irm (r1 / 4) 4))) (-2)) 21 9 0 (ix ((169 + (7 * (irm r1 4))) + (0 : Int32))) (((setI m4 21 9 0 (ix (((9 + (40 * (irm r1 4))) + (4 * (r1 / 16))) + (irm (r1 / 4) 4))) (-2)).1 9 21 0 (ix ((169 + (7 * (irm r1 4))) + (0 : Int32)))) + 1)) 21 9 0 (ix ((169 + (7 * (irm r1 4))) + (3 + r3))) (((setI (setI m4 21 9 0 (ix (((9 + (40 * (irm r1 4))) + (4 * (r1 / 16))) + (irm (r1 / 4) 4))) (-2)) 21 9 0 (ix ((169 + (7 * (irm r1 4))) + (0 : Int32))) (((setI m4 21 9 0 (ix (((9 + (40 * (irm r1 4))) + (4 * (r1 / 16))) + (irm (r1 / 4) 4))) (-2)).1 9 21 0 (ix ((169 + (7 * (irm r1 4))) + (0 : Int32)))) + 1)).1 9 21 0 (ix ((169 + (7 * (irm r1 4))) + (3 + r3)))) + 1)) 21 9 0 (ix ((197 + (12 * x1)) + (3 : Int32))) r3) 21 9 0 (ix ((197 + (12 * x1)) + (4 : Int32))) (irm r1 4)) 21 9 0 (ix ((197 + (12 * x1)) + (1 : Int32))) (((setI (setI (setI (setI (setI m4 21 9 0 (ix (((9 + (40 * (irm r1 4))) + (4 * (r1 / 16))) + (irm (r1 / 4) 4))) (-2)) 21 9 0 (ix ((169 + (7 * (irm r1 4))) + (0 : Int32))) (((setI m4 21 9 0 (ix (((9 + (40 * (irm r1 4))) + (4 * (r1 / 16))) + (irm (r1 / 4) 4))) (-2)).1 9 21 0 (ix ((169 + (7 * (irm r1 4))) + (0 : Int32)))) + 1)) 21 9 0 (ix ((169 + (7 * (irm r1 4))) + (3 + r3))) (((setI (setI m4 21 9 0 (ix (((9 + (40 * (irm r1 4))) + (4 * (r1 / 16))) + (irm (r1 / 4) 4))) (-2)) 21 9 0 (ix ((169 + (7 * (irm r1 4))) + (0 : Int32))) (((setI m4 21 9 0 (ix (((9 + (40 * (irm r1 4))) + (4 * (r1 / 16))) + (irm (r1 / 4) 4))) (-2)).1 9 21 0 (ix ((169 + (7 * (irm r1 4))) + (0 : Int32)))) + 1)).1 9 21 0 (ix ((169 + (7 * (irm r1 4))) + (3 + r3)))) + 1)) 21 9 0 (ix ((197 + (12 * x1)) + (3 : Int32))) r3) 21 9 0 (ix ((197 + (12 * x1)) + (4 : Int32))) (irm r1 4)).1 9 21 0 (ix ((197 + (12 * x1)) + (1 : Int32)))) + 1)) 21 9 0 (ix ((197 + (12 * x1)) + (0 : Int32))) 0).1 9 21 0 (ix ((197 + (12 * x1)) + (1 : Int32)))))) dX5_tests_193 rfl ?_
      refine Wq.iadd dX5_tests_195 ?_
      refine Wq.iast dX5_tests_196 rfl h.1 ?_
      replace h := h.2
      refine Wq.iload (x := r3) dX5_tests_197 rfl ?_
      exact Wq.iret dX5_tests_199 (⟨_, rfl, rfl⟩) h
    · replace h := h.2 q6
      refine Wq.bipush (v := 60) dX5_tests_188 (by decide) ?_
      refine Wq.goto (tgt := 195) dX5_tests_190 (by decide) ?_
      refine Wq.iadd dX5_tests_195 ?_
      refine Wq.iast dX5_tests_196 rfl h.1 ?_
      replace h := h.2
      refine Wq.iload (x := r3) dX5_tests_197 rfl ?_
      exact Wq.iret dX5_tests_199 (⟨_, rfl, rfl⟩) h
  · replace h := h.2 q5
    refine Wq.aload_n (t := 20) (r := 9) (j := 0) dX5_tests_93 rfl ?_
    refine Wq.getf (v := pO 21 9 0) dX5_tests_94 fl_X5_7 ⟨rfl, rfl, by decide⟩ rfl ?_
    refine Wq.iload (x := (irm r1 4)) dX5_tests_97 rfl ?_
    refine Wq.iconst (v := 1) dX5_tests_99 (by decide) ?_
    refine Wq.callSI (As := [pI (irm r1 4), pI 1]) dX5_tests_100 fX5_ofExaminer ml_X5_93 rfl (Nat.le_of_ble_eq_true rfl) (Nat.le_of_ble_eq_true rfl) (suX5_ofExaminer trivial) (fun x12 m9 e9 => ?_)
    obtain ⟨rfl, rfl⟩ := e9
    refine Wq.dup2 dX5_tests_103 rfl rfl ?_
    refine Wq.iald dX5_tests_104 rfl h.1 ?_
    replace h := h.2
    refine Wq.iconst (v := 1) dX5_tests_105 (by decide) ?_
    refine Wq.iadd dX5_tests_106 ?_
    refine Wq.iast dX5_tests_107 rfl h.1 ?_
    replace h := h.2
    refine Wq.aload_n (t := 20) (r := 9) (j := 0) dX5_tests_108 rfl ?_
    refine Wq.getf (v := pO 21 9 0) dX5_tests_109 fl_X5_7 ⟨rfl, rfl, by decide⟩ rfl ?_
    refine Wq.iload_n (x := x1) dX5_tests_112 rfl ?_
    refine Wq.iconst (v := 0) dX5_tests_113 (by decide) ?_
    refine Wq.callSI (As := [pI x1, pI 0]) dX5_tests_114 fX5_of ml_X5_69 rfl (Nat.le_of_ble_eq_true rfl) (Nat.le_of_ble_eq_true rfl) (suX5_of trivial) (fun x11 m9 e9 => ?_)
    obtain ⟨rfl, rfl⟩ := e9
    refine Wq.iconst (v := 3) dX5_tests_117 (by decide) ?_
    refine Wq.iast dX5_tests_118 rfl h.1 ?_
    replace h := h.2
    refine Wq.iload (x := r3) dX5_tests_119 rfl ?_
    exact Wq.iret dX5_tests_121 (⟨_, rfl, rfl⟩) h
set_option maxHeartbeats 4000000 in
set_option maxRecDepth 20000 in
theorem sgX5_order {g : GG} {d : Nat} {c n : Nat} {m : PM} {Q : Ou → PM → Nat → Nat → Prop}  (h : (((m.1 9 20 0 6) ≤ (m.1 9 20 0 8) → Wq g (d + 3) MX5_order c n 24 [some (pO 20 9 0), none, none, none] [pI 0] m Q) ∧ (¬ (m.1 9 20 0 6) ≤ (m.1 9 20 0 8) → (vp_in (m.1 9 20 0 8) 60 ∧ Wq g (d + 3) MX5_order c n 24 [some (pO 20 9 0), none, none, none] [pI (m.1 9 24 0 (ix (m.1 9 20 0 8)))] m Q)))) : Wq g (d + 3) MX5_order c n 0 [some (pO 20 9 0)] [] m Q := by
  refine Wq.few (ls' := [some (pO 20 9 0), none, none, none]) ⟨rfl, trivial⟩ ?_
  refine Wq.aload_n (t := 20) (r := 9) (j := 0) dX5_order_0 rfl ?_
  refine Wq.getf (v := pI (m.1 9 20 0 8)) dX5_order_1 fl_X5_150 ⟨rfl, rfl, by decide⟩ rfl ?_
  refine Wq.aload_n (t := 20) (r := 9) (j := 0) dX5_order_4 rfl ?_
  refine Wq.getf (v := pI (m.1 9 20 0 6)) dX5_order_5 fl_X5_147 ⟨rfl, rfl, by decide⟩ rfl ?_
  refine Wq.icmpge (tgt := 23) dX5_order_8 (by decide) (fun q1 => ?_) (fun q1 => ?_)
  · replace h := h.1 q1
    refine Wq.iconst (v := 0) dX5_order_23 (by decide) ?_
    exact h
  · replace h := h.2 q1
    refine Wq.aload_n (t := 20) (r := 9) (j := 0) dX5_order_11 rfl ?_
    refine Wq.getf (v := pO 24 9 0) dX5_order_12 fl_X5_19 ⟨rfl, rfl, by decide⟩ rfl ?_
    refine Wq.aload_n (t := 20) (r := 9) (j := 0) dX5_order_15 rfl ?_
    refine Wq.getf (v := pI (m.1 9 20 0 8)) dX5_order_16 fl_X5_150 ⟨rfl, rfl, by decide⟩ rfl ?_
    refine Wq.iald dX5_order_19 rfl h.1 ?_
    replace h := h.2
    refine Wq.goto (tgt := 24) dX5_order_20 (by decide) ?_
    exact h
set_option maxHeartbeats 4000000 in
set_option maxRecDepth 20000 in
theorem sgX5_order_24 {g : GG} {d : Nat} {c n : Nat} {m : PM} {Q : Ou → PM → Nat → Nat → Prop} {s0 : Int32} (h : ((¬ (m.1 9 20 0 9) = 0 → Wq g (d + 3) MX5_order c n 69 [some (pO 20 9 0), some (pI s0), none, none] [pO 20 9 0] m Q) ∧ ((m.1 9 20 0 9) = 0 → ((s0 = 97 → Wq g (d + 3) MX5_order c n 73 [some (pO 20 9 0), some (pI s0), none, none] [pO 20 9 0] m Q) ∧ (¬ s0 = 97 → ((s0 = 113 → Wq g (d + 3) MX5_order c n 73 [some (pO 20 9 0), some (pI s0), none, none] [pO 20 9 0] m Q) ∧ (¬ s0 = 113 → ((s0 = 112 → Wq g (d + 3) MX5_order c n 73 [some (pO 20 9 0), some (pI s0), none, none] [pO 20 9 0] m Q) ∧ (¬ s0 = 112 → ((s0 = 102 → Wq g (d + 3) MX5_order c n 73 [some (pO 20 9 0), some (pI s0), none, none] [pO 20 9 0] m Q) ∧ (¬ s0 = 102 → ((s0 = 105 → Wq g (d + 3) MX5_order c n 73 [some (pO 20 9 0), some (pI s0), none, none] [pO 20 9 0] m Q) ∧ (¬ s0 = 105 → ((s0 = 110 → Wq g (d + 3) MX5_order c n 73 [some (pO 20 9 0), some (pI s0), none, none] [pO 20 9 0] m Q) ∧ (¬ s0 = 110 → Wq g (d + 3) MX5_order c n 69 [some (pO 20 9 0), some (pI s0), none, none] [pO 20 9 0] m Q))))))))))))))) : Wq g (d + 3) MX5_order c n 24 [some (pO 20 9 0), none, none, none] [pI s0] m Q := by
  refine Wq.istore_n (ls2 := [some (pO 20 9 0), some (pI s0), none, none]) dX5_order_24 (by decide) rfl ?_
  refine Wq.aload_n (t := 20) (r := 9) (j := 0) dX5_order_25 rfl ?_
  refine Wq.aload_n (t := 20) (r := 9) (j := 0) dX5_order_26 rfl ?_
  refine Wq.getf (v := pI (m.1 9 20 0 9)) dX5_order_27 fl_X5_153 ⟨rfl, rfl, by decide⟩ rfl ?_
  refine Wq.ifne (tgt := 69) dX5_order_30 (by decide) (fun q1 => ?_) (fun q1 => ?_)
  · replace h := h.1 q1
    exact h
  · replace h := h.2 q1
    refine Wq.iload_n (x := s0) dX5_order_33 rfl ?_
    refine Wq.bipush (v := 97) dX5_order_34 (by decide) ?_
    refine Wq.icmpeq (tgt := 73) dX5_order_36 (by decide) (fun q2 => ?_) (fun q2 => ?_)
    · replace h := h.1 q2
      exact h
    · replace h := h.2 q2
      refine Wq.iload_n (x := s0) dX5_order_39 rfl ?_
      refine Wq.bipush (v := 113) dX5_order_40 (by decide) ?_
      refine Wq.icmpeq (tgt := 73) dX5_order_42 (by decide) (fun q3 => ?_) (fun q3 => ?_)
      · replace h := h.1 q3
        exact h
      · replace h := h.2 q3
        refine Wq.iload_n (x := s0) dX5_order_45 rfl ?_
        refine Wq.bipush (v := 112) dX5_order_46 (by decide) ?_
        refine Wq.icmpeq (tgt := 73) dX5_order_48 (by decide) (fun q4 => ?_) (fun q4 => ?_)
        · replace h := h.1 q4
          exact h
        · replace h := h.2 q4
          refine Wq.iload_n (x := s0) dX5_order_51 rfl ?_
          refine Wq.bipush (v := 102) dX5_order_52 (by decide) ?_
          refine Wq.icmpeq (tgt := 73) dX5_order_54 (by decide) (fun q5 => ?_) (fun q5 => ?_)
          · replace h := h.1 q5
            exact h
          · replace h := h.2 q5
            refine Wq.iload_n (x := s0) dX5_order_57 rfl ?_
            refine Wq.bipush (v := 105) dX5_order_58 (by decide) ?_
            refine Wq.icmpeq (tgt := 73) dX5_order_60 (by decide) (fun q6 => ?_) (fun q6 => ?_)
            · replace h := h.1 q6
              exact h
            · replace h := h.2 q6
              refine Wq.iload_n (x := s0) dX5_order_63 rfl ?_
              refine Wq.bipush (v := 110) dX5_order_64 (by decide) ?_
              refine Wq.icmpeq (tgt := 73) dX5_order_66 (by decide) (fun q7 => ?_) (fun q7 => ?_)
              · replace h := h.1 q7
                exact h
              · replace h := h.2 q7
                exact h
set_option maxHeartbeats 4000000 in
set_option maxRecDepth 20000 in
theorem sgX5_order_69 {g : GG} {d : Nat} {c n : Nat} {m : PM} {Q : Ou → PM → Nat → Nat → Prop} {x1 : Int32} (h : Wq g (d + 3) MX5_order c n 74 [some (pO 20 9 0), some (pI x1), none, none] [pI 1, pO 20 9 0] m Q) : Wq g (d + 3) MX5_order c n 69 [some (pO 20 9 0), some (pI x1), none, none] [pO 20 9 0] m Q := by
  refine Wq.iconst (v := 1) dX5_order_69 (by decide) ?_
  refine Wq.goto (tgt := 74) dX5_order_70 (by decide) ?_
  exact h
set_option maxHeartbeats 4000000 in
set_option maxRecDepth 20000 in
theorem sgX5_order_73 {g : GG} {d : Nat} {c n : Nat} {m : PM} {Q : Ou → PM → Nat → Nat → Prop} {x1 : Int32} (h : Wq g (d + 3) MX5_order c n 74 [some (pO 20 9 0), some (pI x1), none, none] [pI 0, pO 20 9 0] m Q) : Wq g (d + 3) MX5_order c n 73 [some (pO 20 9 0), some (pI x1), none, none] [pO 20 9 0] m Q := by
  refine Wq.iconst (v := 0) dX5_order_73 (by decide) ?_
  exact h
set_option maxHeartbeats 4000000 in
set_option maxRecDepth 20000 in
theorem sgX5_order_74 {g : GG} {d : Nat} {c n : Nat} {m : PM} {Q : Ou → PM → Nat → Nat → Prop} {x1 : Int32} {s0 : Int32} (h : ((s0 = 0 ∨ s0 = 1) ∧ ((((setI m 20 9 0 9 s0).1 9 20 0 9) = 0 → Wq g (d + 3) MX5_order c n 94 [some (pO 20 9 0), some (pI x1), none, none] [pI 1, pI ((setI m 20 9 0 9 s0).1 9 20 0 8), pO 20 9 0] (setI m 20 9 0 9 s0) Q) ∧ (¬ ((setI m 20 9 0 9 s0).1 9 20 0 9) = 0 → Wq g (d + 3) MX5_order c n 94 [some (pO 20 9 0), some (pI x1), none, none] [pI 0, pI ((setI m 20 9 0 9 s0).1 9 20 0 8), pO 20 9 0] (setI m 20 9 0 9 s0) Q)))) : Wq g (d + 3) MX5_order c n 74 [some (pO 20 9 0), some (pI x1), none, none] [pI s0, pO 20 9 0] m Q := by
  refine Wq.putI dX5_order_74 fw_X5_153 ⟨rfl, rfl, by decide⟩ ⟨rfl, by decide, by decide⟩ ⟨z_narrow h.1, z_fits h.1⟩ ?_
  replace h := h.2
  refine Wq.aload_n (t := 20) (r := 9) (j := 0) dX5_order_77 rfl ?_
  refine Wq.dup dX5_order_78 rfl ?_
  refine Wq.getf (v := pI ((setI m 20 9 0 9 s0).1 9 20 0 8)) dX5_order_79 fl_X5_150 ⟨rfl, rfl, by decide⟩ rfl ?_
  refine Wq.aload_n (t := 20) (r := 9) (j := 0) dX5_order_82 rfl ?_
  refine Wq.getf (v := pI ((setI m 20 9 0 9 s0).1 9 20 0 9)) dX5_order_83 fl_X5_153 ⟨rfl, rfl, by decide⟩ rfl ?_
  refine Wq.ifeq (tgt := 93) dX5_order_86 (by decide) (fun q1 => ?_) (fun q1 => ?_)
  · replace h := h.1 q1
    refine Wq.iconst (v := 1) dX5_order_93 (by decide) ?_
    exact h
  · replace h := h.2 q1
    refine Wq.iconst (v := 0) dX5_order_89 (by decide) ?_
    refine Wq.goto (tgt := 94) dX5_order_90 (by decide) ?_
    exact h
set_option maxHeartbeats 4000000 in
set_option maxRecDepth 20000 in
theorem sgX5_order_94 {g : GG} {d : Nat} {c n : Nat} {m : PM} {Q : Ou → PM → Nat → Nat → Prop} {x1 : Int32} {s0 : Int32} {s1 : Int32} (h : ((((setI (setI m 20 9 0 8 (s1 + s0)) 26 9 0 (ix 0) x1).1 9 20 0 9) = 0 → ((¬ x1 = 97 → ((¬ x1 = 113 → ((¬ x1 = 112 → Wq g (d + 3) MX5_order c n 148 [some (pO 20 9 0), some (pI x1), none, none] [pI 0] (setI (setI m 20 9 0 8 (s1 + s0)) 26 9 0 (ix 0) x1) Q) ∧ (x1 = 112 → Wq g (d + 3) MX5_order c n 148 [some (pO 20 9 0), some (pI x1), none, none] [pI 6386547] (setI (setI m 20 9 0 8 (s1 + s0)) 26 9 0 (ix 0) x1) Q))) ∧ (x1 = 113 → Wq g (d + 3) MX5_order c n 148 [some (pO 20 9 0), some (pI x1), none, none] [pI 7694708] (setI (setI m 20 9 0 8 (s1 + s0)) 26 9 0 (ix 0) x1) Q))) ∧ (x1 = 97 → Wq g (d + 3) MX5_order c n 148 [some (pO 20 9 0), some (pI x1), none, none] [pI 29547] (setI (setI m 20 9 0 8 (s1 + s0)) 26 9 0 (ix 0) x1) Q))) ∧ (¬ ((setI (setI m 20 9 0 8 (s1 + s0)) 26 9 0 (ix 0) x1).1 9 20 0 9) = 0 → Q (.inl none) (setI (setI m 20 9 0 8 (s1 + s0)) 26 9 0 (ix 0) x1) c n))) : Wq g (d + 3) MX5_order c n 94 [some (pO 20 9 0), some (pI x1), none, none] [pI s0, pI s1, pO 20 9 0] m Q := by
  refine Wq.iadd dX5_order_94 ?_
  refine Wq.putI dX5_order_95 fw_X5_150 ⟨rfl, rfl, by decide⟩ ⟨rfl, by decide, by decide⟩ ⟨rfl, rfl⟩ ?_
  refine Wq.aload_n (t := 20) (r := 9) (j := 0) dX5_order_98 rfl ?_
  refine Wq.getf (v := pO 26 9 0) dX5_order_99 fl_X5_25 ⟨rfl, rfl, by decide⟩ rfl ?_
  refine Wq.iconst (v := 0) dX5_order_102 (by decide) ?_
  refine Wq.iload_n (x := x1) dX5_order_103 rfl ?_
  refine Wq.iast dX5_order_104 rfl (vp_dec rfl) ?_
  refine Wq.aload_n (t := 20) (r := 9) (j := 0) dX5_order_105 rfl ?_
  refine Wq.getf (v := pI ((setI (setI m 20 9 0 8 (s1 + s0)) 26 9 0 (ix 0) x1).1 9 20 0 9)) dX5_order_106 fl_X5_153 ⟨rfl, rfl, by decide⟩ rfl ?_
  refine Wq.ifeq (tgt := 113) dX5_order_109 (by decide) (fun q1 => ?_) (fun q1 => ?_)
  · replace h := h.1 q1
    refine Wq.iload_n (x := x1) dX5_order_113 rfl ?_
    refine Wq.bipush (v := 97) dX5_order_114 (by decide) ?_
    refine Wq.icmpne (tgt := 125) dX5_order_116 (by decide) (fun q2 => ?_) (fun q2 => ?_)
    · replace h := h.1 q2
      refine Wq.iload_n (x := x1) dX5_order_125 rfl ?_
      refine Wq.bipush (v := 113) dX5_order_126 (by decide) ?_
      refine Wq.icmpne (tgt := 136) dX5_order_128 (by decide) (fun q3 => ?_) (fun q3 => ?_)
      · replace h := h.1 q3
        refine Wq.iload_n (x := x1) dX5_order_136 rfl ?_
        refine Wq.bipush (v := 112) dX5_order_137 (by decide) ?_
        refine Wq.icmpne (tgt := 147) dX5_order_139 (by decide) (fun q4 => ?_) (fun q4 => ?_)
        · replace h := h.1 q4
          refine Wq.iconst (v := 0) dX5_order_147 (by decide) ?_
          exact h
        · replace h := h.2 q4
          refine Wq.ldc dX5_order_142 lc_X5_162 ?_
          refine Wq.goto (tgt := 148) dX5_order_144 (by decide) ?_
          exact h
      · replace h := h.2 q3
        refine Wq.ldc dX5_order_131 lc_X5_161 ?_
        refine Wq.goto (tgt := 148) dX5_order_133 (by decide) ?_
        exact h
    · replace h := h.2 q2
      refine Wq.sipush (v := 29547) dX5_order_119 (by decide) ?_
      refine Wq.goto (tgt := 148) dX5_order_122 (by decide) ?_
      exact h
  · replace h := h.2 q1
    exact Wq.vret dX5_order_112 rfl h
set_option maxHeartbeats 4000000 in
set_option maxRecDepth 20000 in
theorem sgX5_order_148 {g : GG} {d : Nat} {c n : Nat} {m : PM} {Q : Ou → PM → Nat → Nat → Prop} {x1 : Int32} {s0 : Int32} (h : ((¬ x1 = 102 → ((¬ x1 = 105 → ((¬ x1 = 110 → Wq g (d + 3) MX5_order c n 184 [some (pO 20 9 0), some (pI x1), none, none] [pI s0] m Q) ∧ (x1 = 110 → Wq g (d + 3) MX5_order c n 184 [some (pO 20 9 0), some (pI x1), none, none] [pI 6649972] m Q))) ∧ (x1 = 105 → Wq g (d + 3) MX5_order c n 184 [some (pO 20 9 0), some (pI x1), none, none] [pI 27756] m Q))) ∧ (x1 = 102 → Wq g (d + 3) MX5_order c n 184 [some (pO 20 9 0), some (pI x1), none, none] [pI 6383980] m Q))) : Wq g (d + 3) MX5_order c n 148 [some (pO 20 9 0), some (pI x1), none, none] [pI s0] m Q := by
  refine Wq.istore_n (ls2 := [some (pO 20 9 0), some (pI x1), some (pI s0), none]) dX5_order_148 (by decide) rfl ?_
  refine Wq.iload_n (x := x1) dX5_order_149 rfl ?_
  refine Wq.bipush (v := 102) dX5_order_150 (by decide) ?_
  refine Wq.icmpne (tgt := 160) dX5_order_152 (by decide) (fun q1 => ?_) (fun q1 => ?_)
  · replace h := h.1 q1
    refine Wq.iload_n (x := x1) dX5_order_160 rfl ?_
    refine Wq.bipush (v := 105) dX5_order_161 (by decide) ?_
    refine Wq.icmpne (tgt := 172) dX5_order_163 (by decide) (fun q2 => ?_) (fun q2 => ?_)
    · replace h := h.1 q2
      refine Wq.iload_n (x := x1) dX5_order_172 rfl ?_
      refine Wq.bipush (v := 110) dX5_order_173 (by decide) ?_
      refine Wq.icmpne (tgt := 183) dX5_order_175 (by decide) (fun q3 => ?_) (fun q3 => ?_)
      · replace h := h.1 q3
        refine Wq.iload_n (x := s0) dX5_order_183 rfl ?_
        refine Wq.few (ls' := [some (pO 20 9 0), some (pI x1), none, none]) ⟨rfl, ⟨rfl, trivial⟩⟩ ?_
        exact h
      · replace h := h.2 q3
        refine Wq.ldc dX5_order_178 lc_X5_164 ?_
        refine Wq.goto (tgt := 184) dX5_order_180 (by decide) ?_
        refine Wq.few (ls' := [some (pO 20 9 0), some (pI x1), none, none]) ⟨rfl, ⟨rfl, trivial⟩⟩ ?_
        exact h
    · replace h := h.2 q2
      refine Wq.sipush (v := 27756) dX5_order_166 (by decide) ?_
      refine Wq.goto (tgt := 184) dX5_order_169 (by decide) ?_
      refine Wq.few (ls' := [some (pO 20 9 0), some (pI x1), none, none]) ⟨rfl, ⟨rfl, trivial⟩⟩ ?_
      exact h
  · replace h := h.2 q1
    refine Wq.ldc dX5_order_155 lc_X5_163 ?_
    refine Wq.goto (tgt := 184) dX5_order_157 (by decide) ?_
    refine Wq.few (ls' := [some (pO 20 9 0), some (pI x1), none, none]) ⟨rfl, ⟨rfl, trivial⟩⟩ ?_
    exact h
set_option maxHeartbeats 4000000 in
set_option maxRecDepth 20000 in
theorem sgX5_order_184 {g : GG} {d : Nat} {c n : Nat} {m : PM} {Q : Ou → PM → Nat → Nat → Prop} {x1 : Int32} {s0 : Int32} (h : Wp g (d + 2) MX5_word 0 [some (pO 20 9 0), some (pI s0)] [] m (cV fun m2 => ((¬ x1 = 105 → ((x1 = 110 → Wq g (d + 3) MX5_order c n 365 [none, none, none, none] [] (setI (setI m2 26 9 0 (ix 1) 0) 26 9 0 (ix 2) 0) Q) ∧ (¬ x1 = 110 → Wp g (d + 2) MX5_sign 0 [some (pO 20 9 0), some (pI 48), some (pI 57)] [] (setI (setI m2 26 9 0 (ix 1) 0) 26 9 0 (ix 2) 0) (cI fun r5 m6 => ((¬ ((setI m6 26 9 0 (ix 1) (r5 - 48)).1 9 20 0 9) = 0 → Wq g (d + 3) MX5_order c n 330 [some (pO 20 9 0), none, none, none] [] (setI m6 26 9 0 (ix 1) (r5 - 48)) Q) ∧ (((setI m6 26 9 0 (ix 1) (r5 - 48)).1 9 20 0 9) = 0 → ((¬ ((setI m6 26 9 0 (ix 1) (r5 - 48)).1 9 26 0 (ix 1)) = 1 → Wq g (d + 3) MX5_order c n 330 [some (pO 20 9 0), none, none, none] [] (setI m6 26 9 0 (ix 1) (r5 - 48)) Q) ∧ (((setI m6 26 9 0 (ix 1) (r5 - 48)).1 9 26 0 (ix 1)) = 1 → ((((setI m6 26 9 0 (ix 1) (r5 - 48)).1 9 20 0 6) ≤ ((setI m6 26 9 0 (ix 1) (r5 - 48)).1 9 20 0 8) → Wq g (d + 3) MX5_order c n 330 [some (pO 20 9 0), none, none, none] [] (setI m6 26 9 0 (ix 1) (r5 - 48)) Q) ∧ (¬ ((setI m6 26 9 0 (ix 1) (r5 - 48)).1 9 20 0 6) ≤ ((setI m6 26 9 0 (ix 1) (r5 - 48)).1 9 20 0 8) → (vp_in ((setI m6 26 9 0 (ix 1) (r5 - 48)).1 9 20 0 8) 60 ∧ ((¬ ((¬ ((setI m6 26 9 0 (ix 1) (r5 - 48)).1 9 24 0 (ix ((setI m6 26 9 0 (ix 1) (r5 - 48)).1 9 20 0 8))) < (48 : Int32)) ∧ (¬ (49 : Int32) < ((setI m6 26 9 0 (ix 1) (r5 - 48)).1 9 24 0 (ix ((setI m6 26 9 0 (ix 1) (r5 - 48)).1 9 20 0 8))))) → Wq g (d + 3) MX5_order c n 330 [some (pO 20 9 0), none, none, none] [] (setI m6 26 9 0 (ix 1) (r5 - 48)) Q) ∧ ((¬ ((setI m6 26 9 0 (ix 1) (r5 - 48)).1 9 24 0 (ix ((setI m6 26 9 0 (ix 1) (r5 - 48)).1 9 20 0 8))) < (48 : Int32)) ∧ (¬ (49 : Int32) < ((setI m6 26 9 0 (ix 1) (r5 - 48)).1 9 24 0 (ix ((setI m6 26 9 0 (ix 1) (r5 - 48)).1 9 20 0 8)))) → Wq g (d + 3) MX5_order c n 331 [some (pO 20 9 0), none, none, none] [pI 1] (setI m6 26 9 0 (ix 1) (r5 - 48)) Q))))))))))))) ∧ (x1 = 105 → Wp g (d + 2) MX5_sign 0 [some (pO 20 9 0), some (pI 48), some (pI 51)] [] (setI (setI m2 26 9 0 (ix 1) 0) 26 9 0 (ix 2) 0) (cI fun r12 m13 => Wp g (d + 2) MX5_sign 0 [some (pO 20 9 0), some (pI 64), some (pI 64)] [] (setI m13 26 9 0 (ix 1) (r12 - 48)) (cI fun r14 m15 => Wp g (d + 2) MX5_sign 0 [some (pO 20 9 0), some (pI 48), some (pI 57)] [] m15 (cI fun r16 m17 => Wq g (d + 3) MX5_order c n 365 [none, none, none, none] [] (setI m17 26 9 0 (ix 2) (r16 - 48)) Q))))))) : Wq g (d + 3) MX5_order c n 184 [some (pO 20 9 0), some (pI x1), none, none] [pI s0] m Q := by
  refine Wq.istore_n (ls2 := [some (pO 20 9 0), some (pI x1), some (pI s0), none]) dX5_order_184 (by decide) rfl ?_
  refine Wq.aload_n (t := 20) (r := 9) (j := 0) dX5_order_185 rfl ?_
  refine Wq.iload_n (x := s0) dX5_order_186 rfl ?_
  refine Wq.callVV (As := [pI s0]) dX5_order_187 fX5_word ml_X5_165 rfl (by decide) rfl (Nat.le_of_ble_eq_true rfl) (Nat.le_of_ble_eq_true rfl) h (fun m2 h => ?_)
  refine Wq.aload_n (t := 20) (r := 9) (j := 0) dX5_order_190 rfl ?_
  refine Wq.getf (v := pO 26 9 0) dX5_order_191 fl_X5_25 ⟨rfl, rfl, by decide⟩ rfl ?_
  refine Wq.iconst (v := 1) dX5_order_194 (by decide) ?_
  refine Wq.iconst (v := 0) dX5_order_195 (by decide) ?_
  refine Wq.iast dX5_order_196 rfl (vp_dec rfl) ?_
  refine Wq.aload_n (t := 20) (r := 9) (j := 0) dX5_order_197 rfl ?_
  refine Wq.getf (v := pO 26 9 0) dX5_order_198 fl_X5_25 ⟨rfl, rfl, by decide⟩ rfl ?_
  refine Wq.iconst (v := 2) dX5_order_201 (by decide) ?_
  refine Wq.iconst (v := 0) dX5_order_202 (by decide) ?_
  refine Wq.iast dX5_order_203 rfl (vp_dec rfl) ?_
  refine Wq.iload_n (x := x1) dX5_order_204 rfl ?_
  refine Wq.bipush (v := 105) dX5_order_205 (by decide) ?_
  refine Wq.icmpne (tgt := 256) dX5_order_207 (by decide) (fun q3 => ?_) (fun q3 => ?_)
  · replace h := h.1 q3
    refine Wq.iload_n (x := x1) dX5_order_256 rfl ?_
    refine Wq.bipush (v := 110) dX5_order_257 (by decide) ?_
    refine Wq.icmpeq (tgt := 365) dX5_order_259 (by decide) (fun q4 => ?_) (fun q4 => ?_)
    · replace h := h.1 q4
      refine Wq.few (ls' := [none, none, none, none]) trivial ?_
      exact h
    · replace h := h.2 q4
      refine Wq.aload_n (t := 20) (r := 9) (j := 0) dX5_order_262 rfl ?_
      refine Wq.getf (v := pO 26 9 0) dX5_order_263 fl_X5_25 ⟨rfl, rfl, by decide⟩ rfl ?_
      refine Wq.iconst (v := 1) dX5_order_266 (by decide) ?_
      refine Wq.aload_n (t := 20) (r := 9) (j := 0) dX5_order_267 rfl ?_
      refine Wq.bipush (v := 48) dX5_order_268 (by decide) ?_
      refine Wq.bipush (v := 57) dX5_order_270 (by decide) ?_
      refine Wq.callVI (As := [pI 48, pI 57]) dX5_order_272 fX5_sign ml_X5_158 rfl (by decide) rfl (Nat.le_of_ble_eq_true rfl) (Nat.le_of_ble_eq_true rfl) h (fun r5 m6 h => ?_)
      refine Wq.bipush (v := 48) dX5_order_275 (by decide) ?_
      refine Wq.isub dX5_order_277 ?_
      refine Wq.iast dX5_order_278 rfl (vp_dec rfl) ?_
      refine Wq.aload_n (t := 20) (r := 9) (j := 0) dX5_order_279 rfl ?_
      refine Wq.getf (v := pI ((setI m6 26 9 0 (ix 1) (r5 - 48)).1 9 20 0 9)) dX5_order_280 fl_X5_153 ⟨rfl, rfl, by decide⟩ rfl ?_
      refine Wq.ifne (tgt := 330) dX5_order_283 (by decide) (fun q7 => ?_) (fun q7 => ?_)
      · replace h := h.1 q7
        refine Wq.few (ls' := [some (pO 20 9 0), none, none, none]) ⟨rfl, trivial⟩ ?_
        exact h
      · replace h := h.2 q7
        refine Wq.aload_n (t := 20) (r := 9) (j := 0) dX5_order_286 rfl ?_
        refine Wq.getf (v := pO 26 9 0) dX5_order_287 fl_X5_25 ⟨rfl, rfl, by decide⟩ rfl ?_
        refine Wq.iconst (v := 1) dX5_order_290 (by decide) ?_
        refine Wq.iald dX5_order_291 rfl (vp_dec rfl) ?_
        refine Wq.iconst (v := 1) dX5_order_292 (by decide) ?_
        refine Wq.icmpne (tgt := 330) dX5_order_293 (by decide) (fun q8 => ?_) (fun q8 => ?_)
        · replace h := h.1 q8
          refine Wq.few (ls' := [some (pO 20 9 0), none, none, none]) ⟨rfl, trivial⟩ ?_
          exact h
        · replace h := h.2 q8
          refine Wq.aload_n (t := 20) (r := 9) (j := 0) dX5_order_296 rfl ?_
          refine Wq.getf (v := pI ((setI m6 26 9 0 (ix 1) (r5 - 48)).1 9 20 0 8)) dX5_order_297 fl_X5_150 ⟨rfl, rfl, by decide⟩ rfl ?_
          refine Wq.aload_n (t := 20) (r := 9) (j := 0) dX5_order_300 rfl ?_
          refine Wq.getf (v := pI ((setI m6 26 9 0 (ix 1) (r5 - 48)).1 9 20 0 6)) dX5_order_301 fl_X5_147 ⟨rfl, rfl, by decide⟩ rfl ?_
          refine Wq.icmpge (tgt := 330) dX5_order_304 (by decide) (fun q9 => ?_) (fun q9 => ?_)
          · replace h := h.1 q9
            refine Wq.few (ls' := [some (pO 20 9 0), none, none, none]) ⟨rfl, trivial⟩ ?_
            exact h
          · replace h := h.2 q9
            refine Wq.aload_n (t := 20) (r := 9) (j := 0) dX5_order_307 rfl ?_
            refine Wq.getf (v := pO 24 9 0) dX5_order_308 fl_X5_19 ⟨rfl, rfl, by decide⟩ rfl ?_
            refine Wq.aload_n (t := 20) (r := 9) (j := 0) dX5_order_311 rfl ?_
            refine Wq.getf (v := pI ((setI m6 26 9 0 (ix 1) (r5 - 48)).1 9 20 0 8)) dX5_order_312 fl_X5_150 ⟨rfl, rfl, by decide⟩ rfl ?_
            refine Wq.iald dX5_order_315 rfl h.1 ?_
            replace h := h.2
            refine Wq.bipush (v := 48) dX5_order_316 (by decide) ?_
            refine Wq.bipush (v := 49) dX5_order_318 (by decide) ?_
            refine Wq.callSI (As := [pI ((setI m6 26 9 0 (ix 1) (r5 - 48)).1 9 24 0 (ix ((setI m6 26 9 0 (ix 1) (r5 - 48)).1 9 20 0 8))), pI 48, pI 49]) dX5_order_320 fX5_in ml_X5_45 rfl (Nat.le_of_ble_eq_true rfl) (Nat.le_of_ble_eq_true rfl) (suX5_in trivial) (fun x11 m9 e9 => ?_)
            obtain ⟨rfl, rfl⟩ := e9
            refine Wq.ifeq (tgt := 330) dX5_order_323 (by decide) (fun q10 => ?_) (fun q10 => ?_)
            · replace h := h.1 (bI_0 q10)
              refine Wq.few (ls' := [some (pO 20 9 0), none, none, none]) ⟨rfl, trivial⟩ ?_
              exact h
            · replace h := h.2 (bI_1 q10)
              refine Wq.iconst (v := 1) dX5_order_326 (by decide) ?_
              refine Wq.goto (tgt := 331) dX5_order_327 (by decide) ?_
              refine Wq.few (ls' := [some (pO 20 9 0), none, none, none]) ⟨rfl, trivial⟩ ?_
              exact h
  · replace h := h.2 q3
    refine Wq.aload_n (t := 20) (r := 9) (j := 0) dX5_order_210 rfl ?_
    refine Wq.getf (v := pO 26 9 0) dX5_order_211 fl_X5_25 ⟨rfl, rfl, by decide⟩ rfl ?_
    refine Wq.iconst (v := 1) dX5_order_214 (by decide) ?_
    refine Wq.aload_n (t := 20) (r := 9) (j := 0) dX5_order_215 rfl ?_
    refine Wq.bipush (v := 48) dX5_order_216 (by decide) ?_
    refine Wq.bipush (v := 51) dX5_order_218 (by decide) ?_
    refine Wq.callVI (As := [pI 48, pI 51]) dX5_order_220 fX5_sign ml_X5_158 rfl (by decide) rfl (Nat.le_of_ble_eq_true rfl) (Nat.le_of_ble_eq_true rfl) h (fun r12 m13 h => ?_)
    refine Wq.bipush (v := 48) dX5_order_223 (by decide) ?_
    refine Wq.isub dX5_order_225 ?_
    refine Wq.iast dX5_order_226 rfl (vp_dec rfl) ?_
    refine Wq.aload_n (t := 20) (r := 9) (j := 0) dX5_order_227 rfl ?_
    refine Wq.bipush (v := 64) dX5_order_228 (by decide) ?_
    refine Wq.bipush (v := 64) dX5_order_230 (by decide) ?_
    refine Wq.callVI (As := [pI 64, pI 64]) dX5_order_232 fX5_sign ml_X5_158 rfl (by decide) rfl (Nat.le_of_ble_eq_true rfl) (Nat.le_of_ble_eq_true rfl) h (fun r14 m15 h => ?_)
    refine Wq.istore_n (ls2 := [some (pO 20 9 0), some (pI x1), some (pI s0), some (pI r14)]) dX5_order_235 (by decide) rfl ?_
    refine Wq.aload_n (t := 20) (r := 9) (j := 0) dX5_order_236 rfl ?_
    refine Wq.getf (v := pO 26 9 0) dX5_order_237 fl_X5_25 ⟨rfl, rfl, by decide⟩ rfl ?_
    refine Wq.iconst (v := 2) dX5_order_240 (by decide) ?_
    refine Wq.aload_n (t := 20) (r := 9) (j := 0) dX5_order_241 rfl ?_
    refine Wq.bipush (v := 48) dX5_order_242 (by decide) ?_
    refine Wq.bipush (v := 57) dX5_order_244 (by decide) ?_
    refine Wq.callVI (As := [pI 48, pI 57]) dX5_order_246 fX5_sign ml_X5_158 rfl (by decide) rfl (Nat.le_of_ble_eq_true rfl) (Nat.le_of_ble_eq_true rfl) h (fun r16 m17 h => ?_)
    refine Wq.bipush (v := 48) dX5_order_249 (by decide) ?_
    refine Wq.isub dX5_order_251 ?_
    refine Wq.iast dX5_order_252 rfl (vp_dec rfl) ?_
    refine Wq.goto (tgt := 365) dX5_order_253 (by decide) ?_
    refine Wq.few (ls' := [none, none, none, none]) trivial ?_
    exact h
set_option maxHeartbeats 4000000 in
set_option maxRecDepth 20000 in
theorem sgX5_order_330 {g : GG} {d : Nat} {c n : Nat} {m : PM} {Q : Ou → PM → Nat → Nat → Prop}  (h : Wq g (d + 3) MX5_order c n 331 [some (pO 20 9 0), none, none, none] [pI 0] m Q) : Wq g (d + 3) MX5_order c n 330 [some (pO 20 9 0), none, none, none] [] m Q := by
  refine Wq.iconst (v := 0) dX5_order_330 (by decide) ?_
  exact h
set_option maxHeartbeats 4000000 in
set_option maxRecDepth 20000 in
theorem sgX5_order_331 {g : GG} {d : Nat} {c n : Nat} {m : PM} {Q : Ou → PM → Nat → Nat → Prop} {s0 : Int32} (h : ((s0 = 0 → Wq g (d + 3) MX5_order c n 364 [none, none, none, none] [pI (m.1 9 26 0 (ix 1)), pI 1, pO 26 9 0] m Q) ∧ (¬ s0 = 0 → Wp g (d + 2) MX5_sign 0 [some (pO 20 9 0), some (pI 48), some (pI 49)] [] m (cI fun r2 m3 => Wq g (d + 3) MX5_order c n 364 [none, none, none, none] [pI ((10 + r2) - 48), pI 1, pO 26 9 0] m3 Q)))) : Wq g (d + 3) MX5_order c n 331 [some (pO 20 9 0), none, none, none] [pI s0] m Q := by
  refine Wq.istore_n (ls2 := [some (pO 20 9 0), none, none, some (pI s0)]) dX5_order_331 (by decide) rfl ?_
  refine Wq.aload_n (t := 20) (r := 9) (j := 0) dX5_order_332 rfl ?_
  refine Wq.getf (v := pO 26 9 0) dX5_order_333 fl_X5_25 ⟨rfl, rfl, by decide⟩ rfl ?_
  refine Wq.iconst (v := 1) dX5_order_336 (by decide) ?_
  refine Wq.iload_n (x := s0) dX5_order_337 rfl ?_
  refine Wq.ifeq (tgt := 358) dX5_order_338 (by decide) (fun q1 => ?_) (fun q1 => ?_)
  · replace h := h.1 q1
    refine Wq.aload_n (t := 20) (r := 9) (j := 0) dX5_order_358 rfl ?_
    refine Wq.getf (v := pO 26 9 0) dX5_order_359 fl_X5_25 ⟨rfl, rfl, by decide⟩ rfl ?_
    refine Wq.iconst (v := 1) dX5_order_362 (by decide) ?_
    refine Wq.iald dX5_order_363 rfl (vp_dec rfl) ?_
    refine Wq.few (ls' := [none, none, none, none]) trivial ?_
    exact h
  · replace h := h.2 q1
    refine Wq.bipush (v := 10) dX5_order_341 (by decide) ?_
    refine Wq.aload_n (t := 20) (r := 9) (j := 0) dX5_order_343 rfl ?_
    refine Wq.bipush (v := 48) dX5_order_344 (by decide) ?_
    refine Wq.bipush (v := 49) dX5_order_346 (by decide) ?_
    refine Wq.callVI (As := [pI 48, pI 49]) dX5_order_348 fX5_sign ml_X5_158 rfl (by decide) rfl (Nat.le_of_ble_eq_true rfl) (Nat.le_of_ble_eq_true rfl) h (fun r2 m3 h => ?_)
    refine Wq.iadd dX5_order_351 ?_
    refine Wq.bipush (v := 48) dX5_order_352 (by decide) ?_
    refine Wq.isub dX5_order_354 ?_
    refine Wq.goto (tgt := 364) dX5_order_355 (by decide) ?_
    refine Wq.few (ls' := [none, none, none, none]) trivial ?_
    exact h
set_option maxHeartbeats 4000000 in
set_option maxRecDepth 20000 in
theorem sgX5_order_364 {g : GG} {d : Nat} {c n : Nat} {m : PM} {Q : Ou → PM → Nat → Nat → Prop} {s0 : Int32} {s1 : Int32} (h : (vp_in s1 3 ∧ Wq g (d + 3) MX5_order c n 365 [none, none, none, none] [] (setI m 26 9 0 (ix s1) s0) Q)) : Wq g (d + 3) MX5_order c n 364 [none, none, none, none] [pI s0, pI s1, pO 26 9 0] m Q := by
  refine Wq.iast dX5_order_364 rfl h.1 ?_
  replace h := h.2
  exact h
set_option maxHeartbeats 4000000 in
set_option maxRecDepth 20000 in
theorem sgX5_order_365 {g : GG} {d : Nat} {c n : Nat} {m : PM} {Q : Ou → PM → Nat → Nat → Prop}  (h : Q (.inl none) m c n) : Wq g (d + 3) MX5_order c n 365 [none, none, none, none] [] m Q := by
  exact Wq.vret dX5_order_365 rfl h
set_option maxHeartbeats 4000000 in
set_option maxRecDepth 20000 in
theorem sgX5_pupilOf {g : GG} {d : Nat} {c n : Nat} {m : PM} {Q : Ou → PM → Nat → Nat → Prop} {x1 : Int32} {x2 : Int32} (h : ((x2 = 0 → (vp_in ((197 + (12 * x1)) + x2) 341 ∧ Q (.inl (some (pI (m.1 9 21 0 (ix ((197 + (12 * x1)) + x2)))))) m c n)) ∧ (¬ x2 = 0 → ((x2 = 1 → (vp_in ((197 + (12 * x1)) + x2) 341 ∧ Q (.inl (some (pI (m.1 9 21 0 (ix ((197 + (12 * x1)) + x2)))))) m c n)) ∧ (¬ x2 = 1 → ((x2 = 2 → (vp_in ((197 + (12 * x1)) + x2) 341 ∧ Q (.inl (some (pI (m.1 9 21 0 (ix ((197 + (12 * x1)) + x2)))))) m c n)) ∧ (¬ x2 = 2 → ((x2 = 3 → (vp_in ((197 + (12 * x1)) + x2) 341 ∧ Q (.inl (some (pI (m.1 9 21 0 (ix ((197 + (12 * x1)) + x2)))))) m c n)) ∧ (¬ x2 = 3 → ((x2 = 4 → (vp_in ((197 + (12 * x1)) + x2) 341 ∧ Q (.inl (some (pI (m.1 9 21 0 (ix ((197 + (12 * x1)) + x2)))))) m c n)) ∧ (¬ x2 = 4 → ((x2 = 5 → Wp g (d + 2) MX5_slotBy 0 [some (pO 20 9 0), some (pI x1)] [] m (cI fun r12 m13 => Q (.inl (some (pI ((if ¬ r12 = (-1) then (if ¬ (x2 - 5) = 0 then (if ¬ (x2 - 5) = 1 then (irm r12 4) else (irm (r12 / 4) 4)) else (r12 / 16)) else (-1)) : Int32)))) m13 c n)) ∧ (¬ x2 = 5 → ((x2 = 6 → Wp g (d + 2) MX5_slotBy 0 [some (pO 20 9 0), some (pI x1)] [] m (cI fun r16 m17 => Q (.inl (some (pI ((if ¬ r16 = (-1) then (if ¬ (x2 - 5) = 0 then (if ¬ (x2 - 5) = 1 then (irm r16 4) else (irm (r16 / 4) 4)) else (r16 / 16)) else (-1)) : Int32)))) m17 c n)) ∧ (¬ x2 = 6 → ((x2 = 7 → Wp g (d + 2) MX5_slotBy 0 [some (pO 20 9 0), some (pI x1)] [] m (cI fun r20 m21 => Q (.inl (some (pI ((if ¬ r20 = (-1) then (if ¬ (x2 - 5) = 0 then (if ¬ (x2 - 5) = 1 then (irm r20 4) else (irm (r20 / 4) 4)) else (r20 / 16)) else (-1)) : Int32)))) m21 c n)) ∧ (¬ x2 = 7 → ((x2 = 8 → (vp_in ((197 + (12 * x1)) + (5 : Int32)) 341 ∧ Q (.inl (some (pI (m.1 9 21 0 (ix ((197 + (12 * x1)) + (5 : Int32))))))) m c n)) ∧ (¬ x2 = 8 → ((x2 = 9 → (vp_in ((197 + (12 * x1)) + (0 : Int32)) 341 ∧ ((¬ (m.1 9 21 0 (ix ((197 + (12 * x1)) + (0 : Int32)))) = 1 → Q (.inl (some (pI (-1)))) m c n) ∧ ((m.1 9 21 0 (ix ((197 + (12 * x1)) + (0 : Int32)))) = 1 → Wp g (d + 2) MX5_placeInOrder 0 [some (pO 20 9 0), some (pI x1)] [] m (cI fun r27 m28 => Q (.inl (some (pI r27))) m28 c n))))) ∧ (¬ x2 = 9 → (vp_in ((197 + (12 * x1)) + (7 : Int32)) 341 ∧ Q (.inl (some (pI (m.1 9 21 0 (ix ((197 + (12 * x1)) + (7 : Int32))))))) m c n)))))))))))))))))))))) : Wq g (d + 3) MX5_pupilOf c n 0 [some (pO 20 9 0), some (pI x1), some (pI x2)] [] m Q := by
  refine Wq.few (ls' := [some (pO 20 9 0), some (pI x1), some (pI x2)]) ⟨rfl, ⟨rfl, ⟨rfl, trivial⟩⟩⟩ ?_
  refine Wq.iload_n (x := x2) dX5_pupilOf_0 rfl ?_
  by_cases q1 : x2 = 0
  · replace h := h.1 q1
    refine Wq.tableIn (tgt := 56) dX5_pupilOf_1 (by rw [q1]; decide) (by rw [q1]; decide) (by rw [q1]; rfl) (by decide) ?_
    refine Wq.aload_n (t := 20) (r := 9) (j := 0) dX5_pupilOf_56 rfl ?_
    refine Wq.getf (v := pO 21 9 0) dX5_pupilOf_57 fl_X5_7 ⟨rfl, rfl, by decide⟩ rfl ?_
    refine Wq.iload_n (x := x1) dX5_pupilOf_60 rfl ?_
    refine Wq.iload_n (x := x2) dX5_pupilOf_61 rfl ?_
    refine Wq.callSI (As := [pI x1, pI x2]) dX5_pupilOf_62 fX5_of ml_X5_69 rfl (Nat.le_of_ble_eq_true rfl) (Nat.le_of_ble_eq_true rfl) (suX5_of trivial) (fun x2 m9 e9 => ?_)
    obtain ⟨rfl, rfl⟩ := e9
    refine Wq.iald dX5_pupilOf_65 rfl h.1 ?_
    replace h := h.2
    exact Wq.iret dX5_pupilOf_66 (⟨_, rfl, rfl⟩) h
  · replace h := h.2 q1
    by_cases q3 : x2 = 1
    · replace h := h.1 q3
      refine Wq.tableIn (tgt := 56) dX5_pupilOf_1 (by rw [q3]; decide) (by rw [q3]; decide) (by rw [q3]; rfl) (by decide) ?_
      refine Wq.aload_n (t := 20) (r := 9) (j := 0) dX5_pupilOf_56 rfl ?_
      refine Wq.getf (v := pO 21 9 0) dX5_pupilOf_57 fl_X5_7 ⟨rfl, rfl, by decide⟩ rfl ?_
      refine Wq.iload_n (x := x1) dX5_pupilOf_60 rfl ?_
      refine Wq.iload_n (x := x2) dX5_pupilOf_61 rfl ?_
      refine Wq.callSI (As := [pI x1, pI x2]) dX5_pupilOf_62 fX5_of ml_X5_69 rfl (Nat.le_of_ble_eq_true rfl) (Nat.le_of_ble_eq_true rfl) (suX5_of trivial) (fun x4 m9 e9 => ?_)
      obtain ⟨rfl, rfl⟩ := e9
      refine Wq.iald dX5_pupilOf_65 rfl h.1 ?_
      replace h := h.2
      exact Wq.iret dX5_pupilOf_66 (⟨_, rfl, rfl⟩) h
    · replace h := h.2 q3
      by_cases q5 : x2 = 2
      · replace h := h.1 q5
        refine Wq.tableIn (tgt := 56) dX5_pupilOf_1 (by rw [q5]; decide) (by rw [q5]; decide) (by rw [q5]; rfl) (by decide) ?_
        refine Wq.aload_n (t := 20) (r := 9) (j := 0) dX5_pupilOf_56 rfl ?_
        refine Wq.getf (v := pO 21 9 0) dX5_pupilOf_57 fl_X5_7 ⟨rfl, rfl, by decide⟩ rfl ?_
        refine Wq.iload_n (x := x1) dX5_pupilOf_60 rfl ?_
        refine Wq.iload_n (x := x2) dX5_pupilOf_61 rfl ?_
        refine Wq.callSI (As := [pI x1, pI x2]) dX5_pupilOf_62 fX5_of ml_X5_69 rfl (Nat.le_of_ble_eq_true rfl) (Nat.le_of_ble_eq_true rfl) (suX5_of trivial) (fun x6 m9 e9 => ?_)
        obtain ⟨rfl, rfl⟩ := e9
        refine Wq.iald dX5_pupilOf_65 rfl h.1 ?_
        replace h := h.2
        exact Wq.iret dX5_pupilOf_66 (⟨_, rfl, rfl⟩) h
      · replace h := h.2 q5
        by_cases q7 : x2 = 3
        · replace h := h.1 q7
          refine Wq.tableIn (tgt := 56) dX5_pupilOf_1 (by rw [q7]; decide) (by rw [q7]; decide) (by rw [q7]; rfl) (by decide) ?_
          refine Wq.aload_n (t := 20) (r := 9) (j := 0) dX5_pupilOf_56 rfl ?_
          refine Wq.getf (v := pO 21 9 0) dX5_pupilOf_57 fl_X5_7 ⟨rfl, rfl, by decide⟩ rfl ?_
          refine Wq.iload_n (x := x1) dX5_pupilOf_60 rfl ?_
          refine Wq.iload_n (x := x2) dX5_pupilOf_61 rfl ?_
          refine Wq.callSI (As := [pI x1, pI x2]) dX5_pupilOf_62 fX5_of ml_X5_69 rfl (Nat.le_of_ble_eq_true rfl) (Nat.le_of_ble_eq_true rfl) (suX5_of trivial) (fun x8 m9 e9 => ?_)
          obtain ⟨rfl, rfl⟩ := e9
          refine Wq.iald dX5_pupilOf_65 rfl h.1 ?_
          replace h := h.2
          exact Wq.iret dX5_pupilOf_66 (⟨_, rfl, rfl⟩) h
        · replace h := h.2 q7
          by_cases q9 : x2 = 4
          · replace h := h.1 q9
            refine Wq.tableIn (tgt := 56) dX5_pupilOf_1 (by rw [q9]; decide) (by rw [q9]; decide) (by rw [q9]; rfl) (by decide) ?_
            refine Wq.aload_n (t := 20) (r := 9) (j := 0) dX5_pupilOf_56 rfl ?_
            refine Wq.getf (v := pO 21 9 0) dX5_pupilOf_57 fl_X5_7 ⟨rfl, rfl, by decide⟩ rfl ?_
            refine Wq.iload_n (x := x1) dX5_pupilOf_60 rfl ?_
            refine Wq.iload_n (x := x2) dX5_pupilOf_61 rfl ?_
            refine Wq.callSI (As := [pI x1, pI x2]) dX5_pupilOf_62 fX5_of ml_X5_69 rfl (Nat.le_of_ble_eq_true rfl) (Nat.le_of_ble_eq_true rfl) (suX5_of trivial) (fun x10 m9 e9 => ?_)
            obtain ⟨rfl, rfl⟩ := e9
            refine Wq.iald dX5_pupilOf_65 rfl h.1 ?_
            replace h := h.2
            exact Wq.iret dX5_pupilOf_66 (⟨_, rfl, rfl⟩) h
          · replace h := h.2 q9
            by_cases q11 : x2 = 5
            · replace h := h.1 q11
              refine Wq.tableIn (tgt := 67) dX5_pupilOf_1 (by rw [q11]; decide) (by rw [q11]; decide) (by rw [q11]; rfl) (by decide) ?_
              refine Wq.aload_n (t := 20) (r := 9) (j := 0) dX5_pupilOf_67 rfl ?_
              refine Wq.iload_n (x := x1) dX5_pupilOf_68 rfl ?_
              refine Wq.callVI (As := [pI x1]) dX5_pupilOf_69 fX5_slotBy ml_X5_106 rfl (by decide) rfl (Nat.le_of_ble_eq_true rfl) (Nat.le_of_ble_eq_true rfl) h (fun r12 m13 h => ?_)
              refine Wq.iload_n (x := x2) dX5_pupilOf_72 rfl ?_
              refine Wq.iconst (v := 5) dX5_pupilOf_73 (by decide) ?_
              refine Wq.isub dX5_pupilOf_74 ?_
              refine Wq.callSI (As := [pI r12, pI (x2 - 5)]) dX5_pupilOf_75 fX5_told ml_X5_178 rfl (Nat.le_of_ble_eq_true rfl) (Nat.le_of_ble_eq_true rfl) (suX5_told trivial) (fun x14 m9 e9 => ?_)
              obtain ⟨rfl, rfl⟩ := e9
              exact Wq.iret dX5_pupilOf_78 (⟨_, rfl, rfl⟩) h
            · replace h := h.2 q11
              by_cases q15 : x2 = 6
              · replace h := h.1 q15
                refine Wq.tableIn (tgt := 67) dX5_pupilOf_1 (by rw [q15]; decide) (by rw [q15]; decide) (by rw [q15]; rfl) (by decide) ?_
                refine Wq.aload_n (t := 20) (r := 9) (j := 0) dX5_pupilOf_67 rfl ?_
                refine Wq.iload_n (x := x1) dX5_pupilOf_68 rfl ?_
                refine Wq.callVI (As := [pI x1]) dX5_pupilOf_69 fX5_slotBy ml_X5_106 rfl (by decide) rfl (Nat.le_of_ble_eq_true rfl) (Nat.le_of_ble_eq_true rfl) h (fun r16 m17 h => ?_)
                refine Wq.iload_n (x := x2) dX5_pupilOf_72 rfl ?_
                refine Wq.iconst (v := 5) dX5_pupilOf_73 (by decide) ?_
                refine Wq.isub dX5_pupilOf_74 ?_
                refine Wq.callSI (As := [pI r16, pI (x2 - 5)]) dX5_pupilOf_75 fX5_told ml_X5_178 rfl (Nat.le_of_ble_eq_true rfl) (Nat.le_of_ble_eq_true rfl) (suX5_told trivial) (fun x18 m9 e9 => ?_)
                obtain ⟨rfl, rfl⟩ := e9
                exact Wq.iret dX5_pupilOf_78 (⟨_, rfl, rfl⟩) h
              · replace h := h.2 q15
                by_cases q19 : x2 = 7
                · replace h := h.1 q19
                  refine Wq.tableIn (tgt := 67) dX5_pupilOf_1 (by rw [q19]; decide) (by rw [q19]; decide) (by rw [q19]; rfl) (by decide) ?_
                  refine Wq.aload_n (t := 20) (r := 9) (j := 0) dX5_pupilOf_67 rfl ?_
                  refine Wq.iload_n (x := x1) dX5_pupilOf_68 rfl ?_
                  refine Wq.callVI (As := [pI x1]) dX5_pupilOf_69 fX5_slotBy ml_X5_106 rfl (by decide) rfl (Nat.le_of_ble_eq_true rfl) (Nat.le_of_ble_eq_true rfl) h (fun r20 m21 h => ?_)
                  refine Wq.iload_n (x := x2) dX5_pupilOf_72 rfl ?_
                  refine Wq.iconst (v := 5) dX5_pupilOf_73 (by decide) ?_
                  refine Wq.isub dX5_pupilOf_74 ?_
                  refine Wq.callSI (As := [pI r20, pI (x2 - 5)]) dX5_pupilOf_75 fX5_told ml_X5_178 rfl (Nat.le_of_ble_eq_true rfl) (Nat.le_of_ble_eq_true rfl) (suX5_told trivial) (fun x22 m9 e9 => ?_)
                  obtain ⟨rfl, rfl⟩ := e9
                  exact Wq.iret dX5_pupilOf_78 (⟨_, rfl, rfl⟩) h
                · replace h := h.2 q19
                  by_cases q23 : x2 = 8
                  · replace h := h.1 q23
                    refine Wq.tableIn (tgt := 79) dX5_pupilOf_1 (by rw [q23]; decide) (by rw [q23]; decide) (by rw [q23]; rfl) (by decide) ?_
                    refine Wq.aload_n (t := 20) (r := 9) (j := 0) dX5_pupilOf_79 rfl ?_
                    refine Wq.getf (v := pO 21 9 0) dX5_pupilOf_80 fl_X5_7 ⟨rfl, rfl, by decide⟩ rfl ?_
                    refine Wq.iload_n (x := x1) dX5_pupilOf_83 rfl ?_
                    refine Wq.iconst (v := 5) dX5_pupilOf_84 (by decide) ?_
                    refine Wq.callSI (As := [pI x1, pI 5]) dX5_pupilOf_85 fX5_of ml_X5_69 rfl (Nat.le_of_ble_eq_true rfl) (Nat.le_of_ble_eq_true rfl) (suX5_of trivial) (fun x24 m9 e9 => ?_)
                    obtain ⟨rfl, rfl⟩ := e9
                    refine Wq.iald dX5_pupilOf_88 rfl h.1 ?_
                    replace h := h.2
                    exact Wq.iret dX5_pupilOf_89 (⟨_, rfl, rfl⟩) h
                  · replace h := h.2 q23
                    by_cases q25 : x2 = 9
                    · replace h := h.1 q25
                      refine Wq.tableIn (tgt := 90) dX5_pupilOf_1 (by rw [q25]; decide) (by rw [q25]; decide) (by rw [q25]; rfl) (by decide) ?_
                      refine Wq.aload_n (t := 20) (r := 9) (j := 0) dX5_pupilOf_90 rfl ?_
                      refine Wq.getf (v := pO 21 9 0) dX5_pupilOf_91 fl_X5_7 ⟨rfl, rfl, by decide⟩ rfl ?_
                      refine Wq.iload_n (x := x1) dX5_pupilOf_94 rfl ?_
                      refine Wq.iconst (v := 0) dX5_pupilOf_95 (by decide) ?_
                      refine Wq.callSI (As := [pI x1, pI 0]) dX5_pupilOf_96 fX5_of ml_X5_69 rfl (Nat.le_of_ble_eq_true rfl) (Nat.le_of_ble_eq_true rfl) (suX5_of trivial) (fun x29 m9 e9 => ?_)
                      obtain ⟨rfl, rfl⟩ := e9
                      refine Wq.iald dX5_pupilOf_99 rfl h.1 ?_
                      replace h := h.2
                      refine Wq.iconst (v := 1) dX5_pupilOf_100 (by decide) ?_
                      refine Wq.icmpne (tgt := 112) dX5_pupilOf_101 (by decide) (fun q26 => ?_) (fun q26 => ?_)
                      · replace h := h.1 q26
                        refine Wq.iconst (v := (-1)) dX5_pupilOf_112 (by decide) ?_
                        exact Wq.iret dX5_pupilOf_113 (⟨_, rfl, rfl⟩) h
                      · replace h := h.2 q26
                        refine Wq.aload_n (t := 20) (r := 9) (j := 0) dX5_pupilOf_104 rfl ?_
                        refine Wq.iload_n (x := x1) dX5_pupilOf_105 rfl ?_
                        refine Wq.callVI (As := [pI x1]) dX5_pupilOf_106 fX5_placeInOrder ml_X5_80 rfl (by decide) rfl (Nat.le_of_ble_eq_true rfl) (Nat.le_of_ble_eq_true rfl) h (fun r27 m28 h => ?_)
                        refine Wq.goto (tgt := 113) dX5_pupilOf_109 (by decide) ?_
                        exact Wq.iret dX5_pupilOf_113 (⟨_, rfl, rfl⟩) h
                    · replace h := h.2 q25
                      refine Wq.tableOut (tgt := 114) dX5_pupilOf_1 (sw_out10 q1 q3 q5 q7 q9 q11 q15 q19 q23 q25) (by decide) ?_
                      refine Wq.aload_n (t := 20) (r := 9) (j := 0) dX5_pupilOf_114 rfl ?_
                      refine Wq.getf (v := pO 21 9 0) dX5_pupilOf_115 fl_X5_7 ⟨rfl, rfl, by decide⟩ rfl ?_
                      refine Wq.iload_n (x := x1) dX5_pupilOf_118 rfl ?_
                      refine Wq.bipush (v := 7) dX5_pupilOf_119 (by decide) ?_
                      refine Wq.callSI (As := [pI x1, pI 7]) dX5_pupilOf_121 fX5_of ml_X5_69 rfl (Nat.le_of_ble_eq_true rfl) (Nat.le_of_ble_eq_true rfl) (suX5_of trivial) (fun x30 m9 e9 => ?_)
                      obtain ⟨rfl, rfl⟩ := e9
                      refine Wq.iald dX5_pupilOf_124 rfl h.1 ?_
                      replace h := h.2
                      exact Wq.iret dX5_pupilOf_125 (⟨_, rfl, rfl⟩) h
set_option maxHeartbeats 4000000 in
set_option maxRecDepth 20000 in
theorem sgX5_sumOfDays {g : GG} {d : Nat} {c n : Nat} {m : PM} {Q : Ou → PM → Nat → Nat → Prop}  (h : Wq g (d + 3) MX5_sumOfDays c n 4 [some (pO 20 9 0), some (pI 0), some (pI 0), none] [] m Q) : Wq g (d + 3) MX5_sumOfDays c n 0 [some (pO 20 9 0)] [] m Q := by
  refine Wq.few (ls' := [some (pO 20 9 0), none, none, none]) ⟨rfl, trivial⟩ ?_
  refine Wq.iconst (v := 0) dX5_sumOfDays_0 (by decide) ?_
  refine Wq.istore_n (ls2 := [some (pO 20 9 0), some (pI 0), none, none]) dX5_sumOfDays_1 (by decide) rfl ?_
  refine Wq.iconst (v := 0) dX5_sumOfDays_2 (by decide) ?_
  refine Wq.istore_n (ls2 := [some (pO 20 9 0), some (pI 0), some (pI 0), none]) dX5_sumOfDays_3 (by decide) rfl ?_
  exact h
set_option maxHeartbeats 4000000 in
set_option maxRecDepth 20000 in
theorem sgX5_sumOfDays_4 {g : GG} {d : Nat} {c n : Nat} {m : PM} {Q : Ou → PM → Nat → Nat → Prop} {x1 : Int32} {x2 : Int32} (h : (((m.1 9 21 0 (ix 2)) ≤ x2 → Q (.inl (some (pI x1))) m c n) ∧ (¬ (m.1 9 21 0 (ix 2)) ≤ x2 → Wp g (d + 2) MX5_slotBy 0 [some (pO 20 9 0), some (pI x2)] [] m (cI fun r2 m3 => ((¬ r2 = (-1) → Wq g (d + 3) MX5_sumOfDays c n 4 [some (pO 20 9 0), some (pI (x1 + (r2 / 16))), some (pI (x2 + 1)), none] [] m3 Q) ∧ (r2 = (-1) → Wq g (d + 3) MX5_sumOfDays c n 4 [some (pO 20 9 0), some (pI (x1 + 0)), some (pI (x2 + 1)), none] [] m3 Q)))))) : Wq g (d + 3) MX5_sumOfDays c n 4 [some (pO 20 9 0), some (pI x1), some (pI x2), none] [] m Q := by
  refine Wq.iload_n (x := x2) dX5_sumOfDays_4 rfl ?_
  refine Wq.aload_n (t := 20) (r := 9) (j := 0) dX5_sumOfDays_5 rfl ?_
  refine Wq.getf (v := pO 21 9 0) dX5_sumOfDays_6 fl_X5_7 ⟨rfl, rfl, by decide⟩ rfl ?_
  refine Wq.iconst (v := 2) dX5_sumOfDays_9 (by decide) ?_
  refine Wq.iald dX5_sumOfDays_10 rfl (vp_dec rfl) ?_
  refine Wq.icmpge (tgt := 42) dX5_sumOfDays_11 (by decide) (fun q1 => ?_) (fun q1 => ?_)
  · replace h := h.1 q1
    refine Wq.iload_n (x := x1) dX5_sumOfDays_42 rfl ?_
    exact Wq.iret dX5_sumOfDays_43 (⟨_, rfl, rfl⟩) h
  · replace h := h.2 q1
    refine Wq.aload_n (t := 20) (r := 9) (j := 0) dX5_sumOfDays_14 rfl ?_
    refine Wq.iload_n (x := x2) dX5_sumOfDays_15 rfl ?_
    refine Wq.callVI (As := [pI x2]) dX5_sumOfDays_16 fX5_slotBy ml_X5_106 rfl (by decide) rfl (Nat.le_of_ble_eq_true rfl) (Nat.le_of_ble_eq_true rfl) h (fun r2 m3 h => ?_)
    refine Wq.istore_n (ls2 := [some (pO 20 9 0), some (pI x1), some (pI x2), some (pI r2)]) dX5_sumOfDays_19 (by decide) rfl ?_
    refine Wq.iload_n (x := x1) dX5_sumOfDays_20 rfl ?_
    refine Wq.iload_n (x := r2) dX5_sumOfDays_21 rfl ?_
    refine Wq.iconst (v := (-1)) dX5_sumOfDays_22 (by decide) ?_
    refine Wq.icmpne (tgt := 30) dX5_sumOfDays_23 (by decide) (fun q4 => ?_) (fun q4 => ?_)
    · replace h := h.1 q4
      refine Wq.iload_n (x := r2) dX5_sumOfDays_30 rfl ?_
      refine Wq.callSI (As := [pI r2]) dX5_sumOfDays_31 fX5_dayOf ml_X5_56 rfl (Nat.le_of_ble_eq_true rfl) (Nat.le_of_ble_eq_true rfl) (suX5_dayOf trivial) (fun x5 m9 e9 => ?_)
      obtain ⟨rfl, rfl⟩ := e9
      refine Wq.iadd dX5_sumOfDays_34 ?_
      refine Wq.istore_n (ls2 := [some (pO 20 9 0), some (pI (x1 + (r2 / 16))), some (pI x2), some (pI r2)]) dX5_sumOfDays_35 (by decide) rfl ?_
      refine Wq.iinc (x := x2) (ls2 := [some (pO 20 9 0), some (pI (x1 + (r2 / 16))), some (pI (x2 + 1)), some (pI r2)]) dX5_sumOfDays_36 rfl (by decide) rfl ?_
      refine Wq.goto (tgt := 4) dX5_sumOfDays_39 (by decide) ?_
      refine Wq.few (ls' := [some (pO 20 9 0), some (pI (x1 + (r2 / 16))), some (pI (x2 + 1)), none]) ⟨rfl, ⟨rfl, ⟨rfl, trivial⟩⟩⟩ ?_
      exact h
    · replace h := h.2 q4
      refine Wq.iconst (v := 0) dX5_sumOfDays_26 (by decide) ?_
      refine Wq.goto (tgt := 34) dX5_sumOfDays_27 (by decide) ?_
      refine Wq.iadd dX5_sumOfDays_34 ?_
      refine Wq.istore_n (ls2 := [some (pO 20 9 0), some (pI (x1 + 0)), some (pI x2), some (pI r2)]) dX5_sumOfDays_35 (by decide) rfl ?_
      refine Wq.iinc (x := x2) (ls2 := [some (pO 20 9 0), some (pI (x1 + 0)), some (pI (x2 + 1)), some (pI r2)]) dX5_sumOfDays_36 rfl (by decide) rfl ?_
      refine Wq.goto (tgt := 4) dX5_sumOfDays_39 (by decide) ?_
      refine Wq.few (ls' := [some (pO 20 9 0), some (pI (x1 + 0)), some (pI (x2 + 1)), none]) ⟨rfl, ⟨rfl, ⟨rfl, trivial⟩⟩⟩ ?_
      exact h
set_option maxHeartbeats 4000000 in
set_option maxRecDepth 20000 in
theorem sgX5_goAlong {g : GG} {d : Nat} {c n : Nat} {m : PM} {Q : Ou → PM → Nat → Nat → Prop} {x1 : Int32} (h : Wq g (d + 3) MX5_goAlong c n 2 [some (pO 20 9 0), some (pI x1), some (pI 1), none, none] [] m Q) : Wq g (d + 3) MX5_goAlong c n 0 [some (pO 20 9 0), some (pI x1)] [] m Q := by
  refine Wq.few (ls' := [some (pO 20 9 0), some (pI x1), none, none, none]) ⟨rfl, ⟨rfl, trivial⟩⟩ ?_
  refine Wq.iconst (v := 1) dX5_goAlong_0 (by decide) ?_
  refine Wq.istore_n (ls2 := [some (pO 20 9 0), some (pI x1), some (pI 1), none, none]) dX5_goAlong_1 (by decide) rfl ?_
  exact h
set_option maxHeartbeats 4000000 in
set_option maxRecDepth 20000 in
theorem sgX5_goAlong_2 {g : GG} {d : Nat} {c n : Nat} {m : PM} {Q : Ou → PM → Nat → Nat → Prop} {x1 : Int32} {x2 : Int32} (h : ((x2 = 0 → Q (.inl (some (pI (-1)))) m c n) ∧ (¬ x2 = 0 → Wq g (d + 3) MX5_goAlong c n 10 [some (pO 20 9 0), some (pI x1), some (pI 0), some (pI 0), none] [] m Q))) : Wq g (d + 3) MX5_goAlong c n 2 [some (pO 20 9 0), some (pI x1), some (pI x2), none, none] [] m Q := by
  refine Wq.iload_n (x := x2) dX5_goAlong_2 rfl ?_
  refine Wq.ifeq (tgt := 117) dX5_goAlong_3 (by decide) (fun q1 => ?_) (fun q1 => ?_)
  · replace h := h.1 q1
    refine Wq.iconst (v := (-1)) dX5_goAlong_117 (by decide) ?_
    exact Wq.iret dX5_goAlong_118 (⟨_, rfl, rfl⟩) h
  · replace h := h.2 q1
    refine Wq.iconst (v := 0) dX5_goAlong_6 (by decide) ?_
    refine Wq.istore_n (ls2 := [some (pO 20 9 0), some (pI x1), some (pI 0), none, none]) dX5_goAlong_7 (by decide) rfl ?_
    refine Wq.iconst (v := 0) dX5_goAlong_8 (by decide) ?_
    refine Wq.istore_n (ls2 := [some (pO 20 9 0), some (pI x1), some (pI 0), some (pI 0), none]) dX5_goAlong_9 (by decide) rfl ?_
    exact h
set_option maxHeartbeats 4000000 in
set_option maxRecDepth 20000 in
theorem sgX5_goAlong_10 {g : GG} {d : Nat} {c n : Nat} {m : PM} {Q : Ou → PM → Nat → Nat → Prop} {x1 : Int32} {x2 : Int32} {x3 : Int32} (h : (((m.1 9 21 0 (ix 2)) ≤ x3 → Wq g (d + 3) MX5_goAlong c n 2 [some (pO 20 9 0), some (pI x1), some (pI x2), none, none] [] m Q) ∧ (¬ (m.1 9 21 0 (ix 2)) ≤ x3 → Wq g (d + 3) MX5_goAlong c n 23 [some (pO 20 9 0), some (pI x1), some (pI x2), some (pI x3), some (pI 0)] [] m Q))) : Wq g (d + 3) MX5_goAlong c n 10 [some (pO 20 9 0), some (pI x1), some (pI x2), some (pI x3), none] [] m Q := by
  refine Wq.iload_n (x := x3) dX5_goAlong_10 rfl ?_
  refine Wq.aload_n (t := 20) (r := 9) (j := 0) dX5_goAlong_11 rfl ?_
  refine Wq.getf (v := pO 21 9 0) dX5_goAlong_12 fl_X5_7 ⟨rfl, rfl, by decide⟩ rfl ?_
  refine Wq.iconst (v := 2) dX5_goAlong_15 (by decide) ?_
  refine Wq.iald dX5_goAlong_16 rfl (vp_dec rfl) ?_
  refine Wq.icmpge (tgt := 114) dX5_goAlong_17 (by decide) (fun q1 => ?_) (fun q1 => ?_)
  · replace h := h.1 q1
    refine Wq.goto (tgt := 2) dX5_goAlong_114 (by decide) ?_
    refine Wq.few (ls' := [some (pO 20 9 0), some (pI x1), some (pI x2), none, none]) ⟨rfl, ⟨rfl, ⟨rfl, trivial⟩⟩⟩ ?_
    exact h
  · replace h := h.2 q1
    refine Wq.iconst (v := 0) dX5_goAlong_20 (by decide) ?_
    refine Wq.istore (ls2 := [some (pO 20 9 0), some (pI x1), some (pI x2), some (pI x3), some (pI 0)]) dX5_goAlong_21 (by decide) rfl ?_
    exact h
set_option maxHeartbeats 4000000 in
set_option maxRecDepth 20000 in
theorem sgX5_goAlong_23 {g : GG} {d : Nat} {c n : Nat} {m : PM} {Q : Ou → PM → Nat → Nat → Prop} {x1 : Int32} {x2 : Int32} {x3 : Int32} {x4 : Int32} (h : ((16 ≤ x4 → Wq g (d + 3) MX5_goAlong c n 10 [some (pO 20 9 0), some (pI x1), some (pI x2), some (pI (x3 + 1)), none] [] m Q) ∧ (¬ 16 ≤ x4 → (vp_in x3 12 ∧ (((m.1 9 30 0 (ix x3)) = 0 → Wq g (d + 3) MX5_goAlong c n 10 [some (pO 20 9 0), some (pI x1), some (pI x2), some (pI (x3 + 1)), none] [] m Q) ∧ (¬ (m.1 9 30 0 (ix x3)) = 0 → (vp_in x4 16 ∧ ((¬ (m.1 9 29 0 (ix x4)) = (-1) → Wq g (d + 3) MX5_goAlong c n 23 [some (pO 20 9 0), some (pI x1), some (pI x2), some (pI x3), some (pI (x4 + 1))] [] m Q) ∧ ((m.1 9 29 0 (ix x4)) = (-1) → ((¬ (m.1 9 21 0 (ix 1)) ≤ (irm ((16 * x1) + x4) 4) → (vp_in (((9 + (40 * (irm ((16 * x1) + x4) 4))) + (4 * (((16 * x1) + x4) / 16))) + (irm (((16 * x1) + x4) / 4) 4)) 341 ∧ ((m.1 9 21 0 (ix (((9 + (40 * (irm ((16 * x1) + x4) 4))) + (4 * (((16 * x1) + x4) / 16))) + (irm (((16 * x1) + x4) / 4) 4)))) = (-1) → (vp_in ((197 + (12 * x3)) + (2 : Int32)) 341 ∧ (¬ ((m.1 9 21 0 (ix 0)) + (((16 * x1) + x4) / 16)) < (m.1 9 21 0 (ix ((197 + (12 * x3)) + (2 : Int32)))) → (¬ (m.1 9 21 0 (ix 6)) = 0 → (vp_in ((197 + (12 * x3)) + (4 : Int32)) 341 ∧ True))))))) ∧ ((¬ ((¬ (m.1 9 21 0 (ix 1)) ≤ (irm ((16 * x1) + x4) 4)) ∧ (((m.1 9 21 0 (ix (((9 + (40 * (irm ((16 * x1) + x4) 4))) + (4 * (((16 * x1) + x4) / 16))) + (irm (((16 * x1) + x4) / 4) 4)))) = (-1)) ∧ ((¬ ((m.1 9 21 0 (ix 0)) + (((16 * x1) + x4) / 16)) < (m.1 9 21 0 (ix ((197 + (12 * x3)) + (2 : Int32))))) ∧ (((m.1 9 21 0 (ix 6)) = 0) ∨ (¬ (irm ((16 * x1) + x4) 4) = (m.1 9 21 0 (ix ((197 + (12 * x3)) + (4 : Int32))))))))) → Wq g (d + 3) MX5_goAlong c n 23 [some (pO 20 9 0), some (pI x1), some (pI x2), some (pI x3), some (pI (x4 + 1))] [] m Q) ∧ ((¬ (m.1 9 21 0 (ix 1)) ≤ (irm ((16 * x1) + x4) 4)) ∧ (((m.1 9 21 0 (ix (((9 + (40 * (irm ((16 * x1) + x4) 4))) + (4 * (((16 * x1) + x4) / 16))) + (irm (((16 * x1) + x4) / 4) 4)))) = (-1)) ∧ ((¬ ((m.1 9 21 0 (ix 0)) + (((16 * x1) + x4) / 16)) < (m.1 9 21 0 (ix ((197 + (12 * x3)) + (2 : Int32))))) ∧ (((m.1 9 21 0 (ix 6)) = 0) ∨ (¬ (irm ((16 * x1) + x4) 4) = (m.1 9 21 0 (ix ((197 + (12 * x3)) + (4 : Int32)))))))) → (vp_in x4 16 ∧ (vp_in x4 16 ∧ ((¬ ((setI m 29 9 0 (ix x4) x3).1 9 27 0 (ix x4)) = (-1) → (vp_in x4 16 ∧ (vp_in ((setI m 29 9 0 (ix x4) x3).1 9 27 0 (ix x4)) 12 ∧ Wq g (d + 3) MX5_goAlong c n 23 [some (pO 20 9 0), some (pI x1), some (pI 1), some (pI x3), some (pI (x4 + 1))] [] (setI (setI m 29 9 0 (ix x4) x3) 30 9 0 (ix ((setI m 29 9 0 (ix x4) x3).1 9 27 0 (ix x4))) 1) Q))) ∧ (((setI m 29 9 0 (ix x4) x3).1 9 27 0 (ix x4)) = (-1) → Q (.inl (some (pI x4))) (setI m 29 9 0 (ix x4) x3) c n)))))))))))))))) : Wq g (d + 3) MX5_goAlong c n 23 [some (pO 20 9 0), some (pI x1), some (pI x2), some (pI x3), some (pI x4)] [] m Q := by
  refine Wq.iload (x := x4) dX5_goAlong_23 rfl ?_
  refine Wq.bipush (v := 16) dX5_goAlong_25 (by decide) ?_
  refine Wq.icmpge (tgt := 108) dX5_goAlong_27 (by decide) (fun q1 => ?_) (fun q1 => ?_)
  · replace h := h.1 q1
    refine Wq.iinc (x := x3) (ls2 := [some (pO 20 9 0), some (pI x1), some (pI x2), some (pI (x3 + 1)), some (pI x4)]) dX5_goAlong_108 rfl (by decide) rfl ?_
    refine Wq.goto (tgt := 10) dX5_goAlong_111 (by decide) ?_
    refine Wq.few (ls' := [some (pO 20 9 0), some (pI x1), some (pI x2), some (pI (x3 + 1)), none]) ⟨rfl, ⟨rfl, ⟨rfl, ⟨rfl, trivial⟩⟩⟩⟩ ?_
    exact h
  · replace h := h.2 q1
    refine Wq.aload_n (t := 20) (r := 9) (j := 0) dX5_goAlong_30 rfl ?_
    refine Wq.getf (v := pO 30 9 0) dX5_goAlong_31 fl_X5_37 ⟨rfl, rfl, by decide⟩ rfl ?_
    refine Wq.iload_n (x := x3) dX5_goAlong_34 rfl ?_
    refine Wq.zald dX5_goAlong_35 rfl h.1 ?_
    replace h := h.2
    refine Wq.ifeq (tgt := 108) dX5_goAlong_36 (by decide) (fun q2 => ?_) (fun q2 => ?_)
    · replace h := h.1 q2
      refine Wq.iinc (x := x3) (ls2 := [some (pO 20 9 0), some (pI x1), some (pI x2), some (pI (x3 + 1)), some (pI x4)]) dX5_goAlong_108 rfl (by decide) rfl ?_
      refine Wq.goto (tgt := 10) dX5_goAlong_111 (by decide) ?_
      refine Wq.few (ls' := [some (pO 20 9 0), some (pI x1), some (pI x2), some (pI (x3 + 1)), none]) ⟨rfl, ⟨rfl, ⟨rfl, ⟨rfl, trivial⟩⟩⟩⟩ ?_
      exact h
    · replace h := h.2 q2
      refine Wq.aload_n (t := 20) (r := 9) (j := 0) dX5_goAlong_39 rfl ?_
      refine Wq.getf (v := pO 29 9 0) dX5_goAlong_40 fl_X5_34 ⟨rfl, rfl, by decide⟩ rfl ?_
      refine Wq.iload (x := x4) dX5_goAlong_43 rfl ?_
      refine Wq.iald dX5_goAlong_45 rfl h.1 ?_
      replace h := h.2
      refine Wq.iconst (v := (-1)) dX5_goAlong_46 (by decide) ?_
      refine Wq.icmpne (tgt := 102) dX5_goAlong_47 (by decide) (fun q3 => ?_) (fun q3 => ?_)
      · replace h := h.1 q3
        refine Wq.iinc (x := x4) (ls2 := [some (pO 20 9 0), some (pI x1), some (pI x2), some (pI x3), some (pI (x4 + 1))]) dX5_goAlong_102 rfl (by decide) rfl ?_
        refine Wq.goto (tgt := 23) dX5_goAlong_105 (by decide) ?_
        exact h
      · replace h := h.2 q3
        refine Wq.aload_n (t := 20) (r := 9) (j := 0) dX5_goAlong_50 rfl ?_
        refine Wq.iload_n (x := x3) dX5_goAlong_51 rfl ?_
        refine Wq.bipush (v := 16) dX5_goAlong_52 (by decide) ?_
        refine Wq.iload_n (x := x1) dX5_goAlong_54 rfl ?_
        refine Wq.imul dX5_goAlong_55 ?_
        refine Wq.iload (x := x4) dX5_goAlong_56 rfl ?_
        refine Wq.iadd dX5_goAlong_58 ?_
        refine Wq.callVI (As := [pI x3, pI ((16 * x1) + x4)]) dX5_goAlong_59 fX5_canHave ml_X5_73 rfl (by decide) rfl (Nat.le_of_ble_eq_true rfl) (Nat.le_of_ble_eq_true rfl) (suX5_canHave h.1) (fun x6 m9 e9 => ?_)
        obtain ⟨rfl, rfl⟩ := e9
        replace h := h.2
        refine Wq.ifeq (tgt := 102) dX5_goAlong_62 (by decide) (fun q4 => ?_) (fun q4 => ?_)
        · replace h := h.1 (bI_0 q4)
          refine Wq.iinc (x := x4) (ls2 := [some (pO 20 9 0), some (pI x1), some (pI x2), some (pI x3), some (pI (x4 + 1))]) dX5_goAlong_102 rfl (by decide) rfl ?_
          refine Wq.goto (tgt := 23) dX5_goAlong_105 (by decide) ?_
          exact h
        · replace h := h.2 (bI_1 q4)
          refine Wq.aload_n (t := 20) (r := 9) (j := 0) dX5_goAlong_65 rfl ?_
          refine Wq.getf (v := pO 29 9 0) dX5_goAlong_66 fl_X5_34 ⟨rfl, rfl, by decide⟩ rfl ?_
          refine Wq.iload (x := x4) dX5_goAlong_69 rfl ?_
          refine Wq.iload_n (x := x3) dX5_goAlong_71 rfl ?_
          refine Wq.iast dX5_goAlong_72 rfl h.1 ?_
          replace h := h.2
          refine Wq.aload_n (t := 20) (r := 9) (j := 0) dX5_goAlong_73 rfl ?_
          refine Wq.getf (v := pO 27 9 0) dX5_goAlong_74 fl_X5_28 ⟨rfl, rfl, by decide⟩ rfl ?_
          refine Wq.iload (x := x4) dX5_goAlong_77 rfl ?_
          refine Wq.iald dX5_goAlong_79 rfl h.1 ?_
          replace h := h.2
          refine Wq.iconst (v := (-1)) dX5_goAlong_80 (by decide) ?_
          refine Wq.icmpne (tgt := 87) dX5_goAlong_81 (by decide) (fun q5 => ?_) (fun q5 => ?_)
          · replace h := h.1 q5
            refine Wq.aload_n (t := 20) (r := 9) (j := 0) dX5_goAlong_87 rfl ?_
            refine Wq.getf (v := pO 30 9 0) dX5_goAlong_88 fl_X5_37 ⟨rfl, rfl, by decide⟩ rfl ?_
            refine Wq.aload_n (t := 20) (r := 9) (j := 0) dX5_goAlong_91 rfl ?_
            refine Wq.getf (v := pO 27 9 0) dX5_goAlong_92 fl_X5_28 ⟨rfl, rfl, by decide⟩ rfl ?_
            refine Wq.iload (x := x4) dX5_goAlong_95 rfl ?_
            refine Wq.iald dX5_goAlong_97 rfl h.1 ?_
            replace h := h.2
            refine Wq.iconst (v := 1) dX5_goAlong_98 (by decide) ?_
            refine Wq.zast dX5_goAlong_99 rfl h.1 (by decide) ?_
            replace h := h.2
            refine Wq.iconst (v := 1) dX5_goAlong_100 (by decide) ?_
            refine Wq.istore_n (ls2 := [some (pO 20 9 0), some (pI x1), some (pI 1), some (pI x3), some (pI x4)]) dX5_goAlong_101 (by decide) rfl ?_
            refine Wq.iinc (x := x4) (ls2 := [some (pO 20 9 0), some (pI x1), some (pI 1), some (pI x3), some (pI (x4 + 1))]) dX5_goAlong_102 rfl (by decide) rfl ?_
            refine Wq.goto (tgt := 23) dX5_goAlong_105 (by decide) ?_
            exact h
          · replace h := h.2 q5
            refine Wq.iload (x := x4) dX5_goAlong_84 rfl ?_
            exact Wq.iret dX5_goAlong_86 (⟨_, rfl, rfl⟩) h
set_option maxHeartbeats 4000000 in
set_option maxRecDepth 20000 in
theorem sgX5_share {g : GG} {d : Nat} {c n : Nat} {m : PM} {Q : Ou → PM → Nat → Nat → Prop}  (h : Wp g (d + 2) MX5_sumOfExaminers 0 [some (pO 20 9 0), some (pI 0)] [] m (cI fun r1 m2 => ((¬ r1 = 0 → Wp g (d + 2) MX5_sumOfExaminers 0 [some (pO 20 9 0), some (pI 1)] [] m2 (cI fun r4 m5 => (vf_n64 (FP.ddiv (FP.i2d r4) (FP.i2d r1)) ∧ Q (.inl (some (pD (FP.ddiv (FP.i2d r4) (FP.i2d r1))))) m5 c n))) ∧ (r1 = 0 → Q (.inl (some (pD FP.dconst1))) m2 c n)))) : Wq g (d + 3) MX5_share c n 0 [some (pO 20 9 0)] [] m Q := by
  refine Wq.few (ls' := [some (pO 20 9 0), none]) ⟨rfl, trivial⟩ ?_
  refine Wq.aload_n (t := 20) (r := 9) (j := 0) dX5_share_0 rfl ?_
  refine Wq.iconst (v := 0) dX5_share_1 (by decide) ?_
  refine Wq.callVI (As := [pI 0]) dX5_share_2 fX5_sumOfExaminers ml_X5_191 rfl (by decide) rfl (Nat.le_of_ble_eq_true rfl) (Nat.le_of_ble_eq_true rfl) h (fun r1 m2 h => ?_)
  refine Wq.istore_n (ls2 := [some (pO 20 9 0), some (pI r1)]) dX5_share_5 (by decide) rfl ?_
  refine Wq.iload_n (x := r1) dX5_share_6 rfl ?_
  refine Wq.ifne (tgt := 14) dX5_share_7 (by decide) (fun q3 => ?_) (fun q3 => ?_)
  · replace h := h.1 q3
    refine Wq.aload_n (t := 20) (r := 9) (j := 0) dX5_share_14 rfl ?_
    refine Wq.iconst (v := 1) dX5_share_15 (by decide) ?_
    refine Wq.callVI (As := [pI 1]) dX5_share_16 fX5_sumOfExaminers ml_X5_191 rfl (by decide) rfl (Nat.le_of_ble_eq_true rfl) (Nat.le_of_ble_eq_true rfl) h (fun r4 m5 h => ?_)
    refine Wq.i2d dX5_share_19 ?_
    refine Wq.iload_n (x := r1) dX5_share_20 rfl ?_
    refine Wq.i2d dX5_share_21 ?_
    refine Wq.ddiv dX5_share_22 h.1 ?_
    replace h := h.2
    exact Wq.dret dX5_share_23 rfl h
  · replace h := h.2 q3
    refine Wq.dconst1 dX5_share_10 ?_
    refine Wq.goto (tgt := 23) dX5_share_11 (by decide) ?_
    exact Wq.dret dX5_share_23 rfl h
set_option maxHeartbeats 4000000 in
set_option maxRecDepth 20000 in
theorem sgX5_giveOut {g : GG} {d : Nat} {c n : Nat} {m : PM} {Q : Ou → PM → Nat → Nat → Prop}  (h : Wq g (d + 4) MX5_giveOut c n 4 [some (pO 20 9 0), some (pI 0), some (pI 0), none, none] [] m Q) : Wq g (d + 4) MX5_giveOut c n 0 [some (pO 20 9 0)] [] m Q := by
  refine Wq.few (ls' := [some (pO 20 9 0), none, none, none, none]) ⟨rfl, trivial⟩ ?_
  refine Wq.iconst (v := 0) dX5_giveOut_0 (by decide) ?_
  refine Wq.istore_n (ls2 := [some (pO 20 9 0), some (pI 0), none, none, none]) dX5_giveOut_1 (by decide) rfl ?_
  refine Wq.iconst (v := 0) dX5_giveOut_2 (by decide) ?_
  refine Wq.istore_n (ls2 := [some (pO 20 9 0), some (pI 0), some (pI 0), none, none]) dX5_giveOut_3 (by decide) rfl ?_
  exact h
set_option maxHeartbeats 4000000 in
set_option maxRecDepth 20000 in
theorem sgX5_giveOut_4 {g : GG} {d : Nat} {c n : Nat} {m : PM} {Q : Ou → PM → Nat → Nat → Prop} {x1 : Int32} {x2 : Int32} (h : (((m.1 9 21 0 (ix 2)) ≤ x2 → Wq g (d + 4) MX5_giveOut c n 50 [some (pO 20 9 0), some (pI x1), some (pI 0), none, none] [] m Q) ∧ (¬ (m.1 9 21 0 (ix 2)) ≤ x2 → (vp_in ((197 + (12 * x2)) + (0 : Int32)) 341 ∧ ((¬ (m.1 9 21 0 (ix ((197 + (12 * x2)) + (0 : Int32)))) = 1 → Wq g (d + 4) MX5_giveOut c n 4 [some (pO 20 9 0), some (pI x1), some (pI (x2 + 1)), none, none] [] m Q) ∧ ((m.1 9 21 0 (ix ((197 + (12 * x2)) + (0 : Int32)))) = 1 → Wp g (d + 3) MX5_placeInOrder 0 [some (pO 20 9 0), some (pI x2)] [] m (cI fun r3 m4 => (vp_in r3 12 ∧ Wq g (d + 4) MX5_giveOut c n 4 [some (pO 20 9 0), some (pI (x1 + 1)), some (pI (x2 + 1)), none, none] [] (setI m4 25 9 0 (ix r3) x2) Q)))))))) : Wq g (d + 4) MX5_giveOut c n 4 [some (pO 20 9 0), some (pI x1), some (pI x2), none, none] [] m Q := by
  refine Wq.iload_n (x := x2) dX5_giveOut_4 rfl ?_
  refine Wq.aload_n (t := 20) (r := 9) (j := 0) dX5_giveOut_5 rfl ?_
  refine Wq.getf (v := pO 21 9 0) dX5_giveOut_6 fl_X5_7 ⟨rfl, rfl, by decide⟩ rfl ?_
  refine Wq.iconst (v := 2) dX5_giveOut_9 (by decide) ?_
  refine Wq.iald dX5_giveOut_10 rfl (vp_dec rfl) ?_
  refine Wq.icmpge (tgt := 48) dX5_giveOut_11 (by decide) (fun q1 => ?_) (fun q1 => ?_)
  · replace h := h.1 q1
    refine Wq.iconst (v := 0) dX5_giveOut_48 (by decide) ?_
    refine Wq.istore_n (ls2 := [some (pO 20 9 0), some (pI x1), some (pI 0), none, none]) dX5_giveOut_49 (by decide) rfl ?_
    exact h
  · replace h := h.2 q1
    refine Wq.aload_n (t := 20) (r := 9) (j := 0) dX5_giveOut_14 rfl ?_
    refine Wq.getf (v := pO 21 9 0) dX5_giveOut_15 fl_X5_7 ⟨rfl, rfl, by decide⟩ rfl ?_
    refine Wq.iload_n (x := x2) dX5_giveOut_18 rfl ?_
    refine Wq.iconst (v := 0) dX5_giveOut_19 (by decide) ?_
    refine Wq.callSI (As := [pI x2, pI 0]) dX5_giveOut_20 fX5_of ml_X5_69 rfl (Nat.le_of_ble_eq_true rfl) (Nat.le_of_ble_eq_true rfl) (suX5_of trivial) (fun x5 m9 e9 => ?_)
    obtain ⟨rfl, rfl⟩ := e9
    refine Wq.iald dX5_giveOut_23 rfl h.1 ?_
    replace h := h.2
    refine Wq.iconst (v := 1) dX5_giveOut_24 (by decide) ?_
    refine Wq.icmpne (tgt := 42) dX5_giveOut_25 (by decide) (fun q2 => ?_) (fun q2 => ?_)
    · replace h := h.1 q2
      refine Wq.iinc (x := x2) (ls2 := [some (pO 20 9 0), some (pI x1), some (pI (x2 + 1)), none, none]) dX5_giveOut_42 rfl (by decide) rfl ?_
      refine Wq.goto (tgt := 4) dX5_giveOut_45 (by decide) ?_
      exact h
    · replace h := h.2 q2
      refine Wq.aload_n (t := 20) (r := 9) (j := 0) dX5_giveOut_28 rfl ?_
      refine Wq.getf (v := pO 25 9 0) dX5_giveOut_29 fl_X5_22 ⟨rfl, rfl, by decide⟩ rfl ?_
      refine Wq.aload_n (t := 20) (r := 9) (j := 0) dX5_giveOut_32 rfl ?_
      refine Wq.iload_n (x := x2) dX5_giveOut_33 rfl ?_
      refine Wq.callVI (As := [pI x2]) dX5_giveOut_34 fX5_placeInOrder ml_X5_80 rfl (by decide) rfl (Nat.le_of_ble_eq_true rfl) (Nat.le_of_ble_eq_true rfl) h (fun r3 m4 h => ?_)
      refine Wq.iload_n (x := x2) dX5_giveOut_37 rfl ?_
      refine Wq.iast dX5_giveOut_38 rfl h.1 ?_
      replace h := h.2
      refine Wq.iinc (x := x1) (ls2 := [some (pO 20 9 0), some (pI (x1 + 1)), some (pI x2), none, none]) dX5_giveOut_39 rfl (by decide) rfl ?_
      refine Wq.iinc (x := x2) (ls2 := [some (pO 20 9 0), some (pI (x1 + 1)), some (pI (x2 + 1)), none, none]) dX5_giveOut_42 rfl (by decide) rfl ?_
      refine Wq.goto (tgt := 4) dX5_giveOut_45 (by decide) ?_
      exact h
set_option maxHeartbeats 4000000 in
set_option maxRecDepth 20000 in
theorem sgX5_giveOut_50 {g : GG} {d : Nat} {c n : Nat} {m : PM} {Q : Ou → PM → Nat → Nat → Prop} {x1 : Int32} {x2 : Int32} (h : ((x1 ≤ x2 → Q (.inl none) m c n) ∧ (¬ x1 ≤ x2 → (vp_in x2 12 ∧ Wp g (d + 3) MX5_earliestOf 0 [some (pO 20 9 0), some (pI (m.1 9 25 0 (ix x2)))] [] m (cI fun r2 m3 => ((r2 = (-1) → Wq g (d + 4) MX5_giveOut c n 50 [some (pO 20 9 0), some (pI x1), some (pI (x2 + 1)), none, none] [] m3 Q) ∧ (¬ r2 = (-1) → (vp_in (((9 + (40 * (irm r2 4))) + (4 * (r2 / 16))) + (irm (r2 / 4) 4)) 341 ∧ (vp_in ((197 + (12 * (m.1 9 25 0 (ix x2)))) + (0 : Int32)) 341 ∧ Wq g (d + 4) MX5_giveOut c n 50 [some (pO 20 9 0), some (pI x1), some (pI (x2 + 1)), none, none] [] (setI (setI m3 21 9 0 (ix (((9 + (40 * (irm r2 4))) + (4 * (r2 / 16))) + (irm (r2 / 4) 4))) (m.1 9 25 0 (ix x2))) 21 9 0 (ix ((197 + (12 * (m.1 9 25 0 (ix x2)))) + (0 : Int32))) 2) Q))))))))) : Wq g (d + 4) MX5_giveOut c n 50 [some (pO 20 9 0), some (pI x1), some (pI x2), none, none] [] m Q := by
  refine Wq.iload_n (x := x2) dX5_giveOut_50 rfl ?_
  refine Wq.iload_n (x := x1) dX5_giveOut_51 rfl ?_
  refine Wq.icmpge (tgt := 103) dX5_giveOut_52 (by decide) (fun q1 => ?_) (fun q1 => ?_)
  · replace h := h.1 q1
    exact Wq.vret dX5_giveOut_103 rfl h
  · replace h := h.2 q1
    refine Wq.aload_n (t := 20) (r := 9) (j := 0) dX5_giveOut_55 rfl ?_
    refine Wq.getf (v := pO 25 9 0) dX5_giveOut_56 fl_X5_22 ⟨rfl, rfl, by decide⟩ rfl ?_
    refine Wq.iload_n (x := x2) dX5_giveOut_59 rfl ?_
    refine Wq.iald dX5_giveOut_60 rfl h.1 ?_
    replace h := h.2
    refine Wq.istore_n (ls2 := [some (pO 20 9 0), some (pI x1), some (pI x2), some (pI (m.1 9 25 0 (ix x2))), none]) dX5_giveOut_61 (by decide) rfl ?_
    refine Wq.aload_n (t := 20) (r := 9) (j := 0) dX5_giveOut_62 rfl ?_
    refine Wq.iload_n (x := (m.1 9 25 0 (ix x2))) dX5_giveOut_63 rfl ?_
    refine Wq.callVI (As := [pI (m.1 9 25 0 (ix x2))]) dX5_giveOut_64 fX5_earliestOf ml_X5_83 rfl (by decide) rfl (Nat.le_of_ble_eq_true rfl) (Nat.le_of_ble_eq_true rfl) h (fun r2 m3 h => ?_)
    refine Wq.istore (ls2 := [some (pO 20 9 0), some (pI x1), some (pI x2), some (pI (m.1 9 25 0 (ix x2))), some (pI r2)]) dX5_giveOut_67 (by decide) rfl ?_
    refine Wq.iload (x := r2) dX5_giveOut_69 rfl ?_
    refine Wq.iconst (v := (-1)) dX5_giveOut_71 (by decide) ?_
    refine Wq.icmpeq (tgt := 97) dX5_giveOut_72 (by decide) (fun q4 => ?_) (fun q4 => ?_)
    · replace h := h.1 q4
      refine Wq.iinc (x := x2) (ls2 := [some (pO 20 9 0), some (pI x1), some (pI (x2 + 1)), some (pI (m.1 9 25 0 (ix x2))), some (pI r2)]) dX5_giveOut_97 rfl (by decide) rfl ?_
      refine Wq.goto (tgt := 50) dX5_giveOut_100 (by decide) ?_
      refine Wq.few (ls' := [some (pO 20 9 0), some (pI x1), some (pI (x2 + 1)), none, none]) ⟨rfl, ⟨rfl, ⟨rfl, trivial⟩⟩⟩ ?_
      exact h
    · replace h := h.2 q4
      refine Wq.aload_n (t := 20) (r := 9) (j := 0) dX5_giveOut_75 rfl ?_
      refine Wq.getf (v := pO 21 9 0) dX5_giveOut_76 fl_X5_7 ⟨rfl, rfl, by decide⟩ rfl ?_
      refine Wq.iload (x := r2) dX5_giveOut_79 rfl ?_
      refine Wq.callSI (As := [pI r2]) dX5_giveOut_81 fX5_placeOf ml_X5_66 rfl (Nat.le_of_ble_eq_true rfl) (Nat.le_of_ble_eq_true rfl) (suX5_placeOf trivial) (fun x6 m9 e9 => ?_)
      obtain ⟨rfl, rfl⟩ := e9
      refine Wq.iload_n (x := (m.1 9 25 0 (ix x2))) dX5_giveOut_84 rfl ?_
      refine Wq.iast dX5_giveOut_85 rfl h.1 ?_
      replace h := h.2
      refine Wq.aload_n (t := 20) (r := 9) (j := 0) dX5_giveOut_86 rfl ?_
      refine Wq.getf (v := pO 21 9 0) dX5_giveOut_87 fl_X5_7 ⟨rfl, rfl, by decide⟩ rfl ?_
      refine Wq.iload_n (x := (m.1 9 25 0 (ix x2))) dX5_giveOut_90 rfl ?_
      refine Wq.iconst (v := 0) dX5_giveOut_91 (by decide) ?_
      refine Wq.callSI (As := [pI (m.1 9 25 0 (ix x2)), pI 0]) dX5_giveOut_92 fX5_of ml_X5_69 rfl (Nat.le_of_ble_eq_true rfl) (Nat.le_of_ble_eq_true rfl) (suX5_of trivial) (fun x5 m9 e9 => ?_)
      obtain ⟨rfl, rfl⟩ := e9
      refine Wq.iconst (v := 2) dX5_giveOut_95 (by decide) ?_
      refine Wq.iast dX5_giveOut_96 rfl h.1 ?_
      replace h := h.2
      refine Wq.iinc (x := x2) (ls2 := [some (pO 20 9 0), some (pI x1), some (pI (x2 + 1)), some (pI (m.1 9 25 0 (ix x2))), some (pI r2)]) dX5_giveOut_97 rfl (by decide) rfl ?_
      refine Wq.goto (tgt := 50) dX5_giveOut_100 (by decide) ?_
      refine Wq.few (ls' := [some (pO 20 9 0), some (pI x1), some (pI (x2 + 1)), none, none]) ⟨rfl, ⟨rfl, ⟨rfl, trivial⟩⟩⟩ ?_
      exact h
set_option maxHeartbeats 4000000 in
set_option maxRecDepth 20000 in
theorem sgX5_test {g : GG} {d : Nat} {c n : Nat} {m : PM} {Q : Ou → PM → Nat → Nat → Prop} {x1 : Int32} {x2 : Int32} (h : Wp g (d + 3) MX5_testFault 0 [some (pO 20 9 0), some (pI x1)] [] m (cI fun r1 m2 => ((¬ r1 = 0 → Q (.inl (some (pI 0))) (setI m2 20 9 0 0 r1) c n) ∧ (r1 = 0 → Wp g (d + 3) MX5_save 0 [some (pO 20 9 0)] [] (setI m2 20 9 0 0 r1) (cV fun m5 => Wp g (d + 3) MX5_tests 0 [some (pO 20 9 0), some (pI x1), some (pI x2)] [] m5 (cI fun r6 m7 => Q (.inl (some (pI r6))) m7 c n)))))) : Wq g (d + 4) MX5_test c n 0 [some (pO 20 9 0), some (pI x1), some (pI x2)] [] m Q := by
  refine Wq.few (ls' := [some (pO 20 9 0), some (pI x1), some (pI x2)]) ⟨rfl, ⟨rfl, ⟨rfl, trivial⟩⟩⟩ ?_
  refine Wq.aload_n (t := 20) (r := 9) (j := 0) dX5_test_0 rfl ?_
  refine Wq.aload_n (t := 20) (r := 9) (j := 0) dX5_test_1 rfl ?_
  refine Wq.iload_n (x := x1) dX5_test_2 rfl ?_
  refine Wq.callVI (As := [pI x1]) dX5_test_3 fX5_testFault ml_X5_133 rfl (by decide) rfl (Nat.le_of_ble_eq_true rfl) (Nat.le_of_ble_eq_true rfl) h (fun r1 m2 h => ?_)
  refine Wq.callVI (As := [pI r1]) dX5_test_6 fX5_holds ml_X5_86 rfl (by decide) rfl (Nat.le_of_ble_eq_true rfl) (Nat.le_of_ble_eq_true rfl) ?_ (fun _ _ h9 => h9)
  refine Wq.few (ls' := [some (pO 20 9 0), some (pI r1)]) ⟨rfl, ⟨rfl, trivial⟩⟩ ?_
  refine Wq.aload_n (t := 20) (r := 9) (j := 0) dX5_holds_0 rfl ?_
  refine Wq.iload_n (x := r1) dX5_holds_1 rfl ?_
  refine Wq.putI dX5_holds_2 fw_X5_41 ⟨rfl, rfl, by decide⟩ ⟨rfl, by decide, by decide⟩ ⟨rfl, rfl⟩ ?_
  refine Wq.iload_n (x := r1) dX5_holds_5 rfl ?_
  refine Wq.ifne (tgt := 13) dX5_holds_6 (by decide) (fun q3 => ?_) (fun q3 => ?_)
  · replace h := h.1 q3
    refine Wq.iconst (v := 0) dX5_holds_13 (by decide) ?_
    refine Wq.iretI dX5_holds_14 (⟨_, rfl, by decide⟩) ?_
    refine Wq.ifne (tgt := 14) dX5_test_9 (by decide) (fun q9 => absurd q9 (by decide)) (fun _ => ?_)
    refine Wq.iconst (v := 0) dX5_test_12 (by decide) ?_
    exact Wq.iret dX5_test_13 (⟨_, rfl, rfl⟩) h
  · replace h := h.2 q3
    refine Wq.iconst (v := 1) dX5_holds_9 (by decide) ?_
    refine Wq.goto (tgt := 14) dX5_holds_10 (by decide) ?_
    refine Wq.iretI dX5_holds_14 (⟨_, rfl, by decide⟩) ?_
    refine Wq.ifne (tgt := 14) dX5_test_9 (by decide) (fun _ => ?_) (fun q9 => absurd q9 (by decide))
    refine Wq.aload_n (t := 20) (r := 9) (j := 0) dX5_test_14 rfl ?_
    refine Wq.callVV (As := []) dX5_test_15 fX5_save ml_X5_90 rfl (by decide) rfl (Nat.le_of_ble_eq_true rfl) (Nat.le_of_ble_eq_true rfl) h (fun m5 h => ?_)
    refine Wq.aload_n (t := 20) (r := 9) (j := 0) dX5_test_18 rfl ?_
    refine Wq.iload_n (x := x1) dX5_test_19 rfl ?_
    refine Wq.iload_n (x := x2) dX5_test_20 rfl ?_
    refine Wq.callVI (As := [pI x1, pI x2]) dX5_test_21 fX5_tests ml_X5_136 rfl (by decide) rfl (Nat.le_of_ble_eq_true rfl) (Nat.le_of_ble_eq_true rfl) h (fun r6 m7 h => ?_)
    exact Wq.iret dX5_test_24 (⟨_, rfl, rfl⟩) h
set_option maxHeartbeats 4000000 in
set_option maxRecDepth 20000 in
theorem sgX5_pupil {g : GG} {d : Nat} {c n : Nat} {m : PM} {Q : Ou → PM → Nat → Nat → Prop} {x1 : Int32} {x2 : Int32} (h : (((¬ x1 < (0 : Int32)) ∧ (¬ ((m.1 9 21 0 (ix 2)) - 1) < x1) → (((¬ x2 < (0 : Int32)) ∧ (¬ (10 : Int32) < x2) → Wp g (d + 3) MX5_pupilOf 0 [some (pO 20 9 0), some (pI x1), some (pI x2)] [] (setI m 20 9 0 0 0) (cI fun r3 m4 => Q (.inl (some (pI r3))) m4 c n)) ∧ (¬ ((¬ x2 < (0 : Int32)) ∧ (¬ (10 : Int32) < x2)) → Q (.inl (some (pI 0))) (setI m 20 9 0 0 2) c n))) ∧ (¬ ((¬ x1 < (0 : Int32)) ∧ (¬ ((m.1 9 21 0 (ix 2)) - 1) < x1)) → Q (.inl (some (pI 0))) (setI m 20 9 0 0 1) c n))) : Wq g (d + 4) MX5_pupil c n 0 [some (pO 20 9 0), some (pI x1), some (pI x2)] [] m Q := by
  refine Wq.few (ls' := [some (pO 20 9 0), some (pI x1), some (pI x2)]) ⟨rfl, ⟨rfl, ⟨rfl, trivial⟩⟩⟩ ?_
  refine Wq.aload_n (t := 20) (r := 9) (j := 0) dX5_pupil_0 rfl ?_
  refine Wq.aload_n (t := 20) (r := 9) (j := 0) dX5_pupil_1 rfl ?_
  refine Wq.iload_n (x := x1) dX5_pupil_2 rfl ?_
  refine Wq.callVI (As := [pI x1]) dX5_pupil_3 fX5_isPupil ml_X5_99 rfl (by decide) rfl (Nat.le_of_ble_eq_true rfl) (Nat.le_of_ble_eq_true rfl) (suX5_isPupil trivial) (fun x6 m9 e9 => ?_)
  obtain ⟨rfl, rfl⟩ := e9
  refine Wq.ifne (tgt := 13) dX5_pupil_6 (by decide) (fun q1 => ?_) (fun q1 => ?_)
  · replace h := h.1 (bI_1 q1)
    refine Wq.iload_n (x := x2) dX5_pupil_13 rfl ?_
    refine Wq.iconst (v := 0) dX5_pupil_14 (by decide) ?_
    refine Wq.bipush (v := 10) dX5_pupil_15 (by decide) ?_
    refine Wq.callSI (As := [pI x2, pI 0, pI 10]) dX5_pupil_17 fX5_in ml_X5_45 rfl (Nat.le_of_ble_eq_true rfl) (Nat.le_of_ble_eq_true rfl) (suX5_in trivial) (fun x5 m9 e9 => ?_)
    obtain ⟨rfl, rfl⟩ := e9
    refine Wq.ifne (tgt := 27) dX5_pupil_20 (by decide) (fun q2 => ?_) (fun q2 => ?_)
    · replace h := h.1 (bI_1 q2)
      refine Wq.iconst (v := 0) dX5_pupil_27 (by decide) ?_
      refine Wq.callVI (As := [pI 0]) dX5_pupil_28 fX5_holds ml_X5_86 rfl (by decide) rfl (Nat.le_of_ble_eq_true rfl) (Nat.le_of_ble_eq_true rfl) ?_ (fun _ _ h9 => h9)
      refine Wq.few (ls' := [some (pO 20 9 0), some (pI 0)]) ⟨rfl, ⟨rfl, trivial⟩⟩ ?_
      refine Wq.aload_n (t := 20) (r := 9) (j := 0) dX5_holds_0 rfl ?_
      refine Wq.iload_n (x := 0) dX5_holds_1 rfl ?_
      refine Wq.putI dX5_holds_2 fw_X5_41 ⟨rfl, rfl, by decide⟩ ⟨rfl, by decide, by decide⟩ ⟨rfl, rfl⟩ ?_
      refine Wq.iload_n (x := 0) dX5_holds_5 rfl ?_
      refine Wq.ifne (tgt := 13) dX5_holds_6 (by decide) (fun q9 => absurd q9 (by decide)) (fun _ => ?_)
      refine Wq.iconst (v := 1) dX5_holds_9 (by decide) ?_
      refine Wq.goto (tgt := 14) dX5_holds_10 (by decide) ?_
      refine Wq.iretI dX5_holds_14 (⟨_, rfl, by decide⟩) ?_
      refine Wq.ifeq (tgt := 43) dX5_pupil_31 (by decide) (fun q9 => absurd q9 (by decide)) (fun _ => ?_)
      refine Wq.aload_n (t := 20) (r := 9) (j := 0) dX5_pupil_34 rfl ?_
      refine Wq.iload_n (x := x1) dX5_pupil_35 rfl ?_
      refine Wq.iload_n (x := x2) dX5_pupil_36 rfl ?_
      refine Wq.callVI (As := [pI x1, pI x2]) dX5_pupil_37 fX5_pupilOf ml_X5_180 rfl (by decide) rfl (Nat.le_of_ble_eq_true rfl) (Nat.le_of_ble_eq_true rfl) h (fun r3 m4 h => ?_)
      refine Wq.goto (tgt := 44) dX5_pupil_40 (by decide) ?_
      exact Wq.iret dX5_pupil_44 (⟨_, rfl, rfl⟩) h
    · replace h := h.2 (bI_0 q2)
      refine Wq.iconst (v := 2) dX5_pupil_23 (by decide) ?_
      refine Wq.goto (tgt := 28) dX5_pupil_24 (by decide) ?_
      refine Wq.callVI (As := [pI 2]) dX5_pupil_28 fX5_holds ml_X5_86 rfl (by decide) rfl (Nat.le_of_ble_eq_true rfl) (Nat.le_of_ble_eq_true rfl) ?_ (fun _ _ h9 => h9)
      refine Wq.few (ls' := [some (pO 20 9 0), some (pI 2)]) ⟨rfl, ⟨rfl, trivial⟩⟩ ?_
      refine Wq.aload_n (t := 20) (r := 9) (j := 0) dX5_holds_0 rfl ?_
      refine Wq.iload_n (x := 2) dX5_holds_1 rfl ?_
      refine Wq.putI dX5_holds_2 fw_X5_41 ⟨rfl, rfl, by decide⟩ ⟨rfl, by decide, by decide⟩ ⟨rfl, rfl⟩ ?_
      refine Wq.iload_n (x := 2) dX5_holds_5 rfl ?_
      refine Wq.ifne (tgt := 13) dX5_holds_6 (by decide) (fun _ => ?_) (fun q9 => absurd q9 (by decide))
      refine Wq.iconst (v := 0) dX5_holds_13 (by decide) ?_
      refine Wq.iretI dX5_holds_14 (⟨_, rfl, by decide⟩) ?_
      refine Wq.ifeq (tgt := 43) dX5_pupil_31 (by decide) (fun _ => ?_) (fun q9 => absurd q9 (by decide))
      refine Wq.iconst (v := 0) dX5_pupil_43 (by decide) ?_
      exact Wq.iret dX5_pupil_44 (⟨_, rfl, rfl⟩) h
  · replace h := h.2 (bI_0 q1)
    refine Wq.iconst (v := 1) dX5_pupil_9 (by decide) ?_
    refine Wq.goto (tgt := 28) dX5_pupil_10 (by decide) ?_
    refine Wq.callVI (As := [pI 1]) dX5_pupil_28 fX5_holds ml_X5_86 rfl (by decide) rfl (Nat.le_of_ble_eq_true rfl) (Nat.le_of_ble_eq_true rfl) ?_ (fun _ _ h9 => h9)
    refine Wq.few (ls' := [some (pO 20 9 0), some (pI 1)]) ⟨rfl, ⟨rfl, trivial⟩⟩ ?_
    refine Wq.aload_n (t := 20) (r := 9) (j := 0) dX5_holds_0 rfl ?_
    refine Wq.iload_n (x := 1) dX5_holds_1 rfl ?_
    refine Wq.putI dX5_holds_2 fw_X5_41 ⟨rfl, rfl, by decide⟩ ⟨rfl, by decide, by decide⟩ ⟨rfl, rfl⟩ ?_
    refine Wq.iload_n (x := 1) dX5_holds_5 rfl ?_
    refine Wq.ifne (tgt := 13) dX5_holds_6 (by decide) (fun _ => ?_) (fun q9 => absurd q9 (by decide))
    refine Wq.iconst (v := 0) dX5_holds_13 (by decide) ?_
    refine Wq.iretI dX5_holds_14 (⟨_, rfl, by decide⟩) ?_
    refine Wq.ifeq (tgt := 43) dX5_pupil_31 (by decide) (fun _ => ?_) (fun q9 => absurd q9 (by decide))
    refine Wq.iconst (v := 0) dX5_pupil_43 (by decide) ?_
    exact Wq.iret dX5_pupil_44 (⟨_, rfl, rfl⟩) h
set_option maxHeartbeats 4000000 in
set_option maxRecDepth 20000 in
theorem sgX5_counted {g : GG} {d : Nat} {c n : Nat} {m : PM} {Q : Ou → PM → Nat → Nat → Prop} {x1 : Int32} (h : ((x1 = 0 → (vp_in x1 341 ∧ Q (.inl (some (pI (m.1 9 21 0 (ix x1))))) m c n)) ∧ (¬ x1 = 0 → ((x1 = 1 → (vp_in x1 341 ∧ Q (.inl (some (pI (m.1 9 21 0 (ix x1))))) m c n)) ∧ (¬ x1 = 1 → ((x1 = 2 → (vp_in x1 341 ∧ Q (.inl (some (pI (m.1 9 21 0 (ix x1))))) m c n)) ∧ (¬ x1 = 2 → ((x1 = 3 → Wp g (d + 3) MX5_stages 0 [some (pO 20 9 0), some (pI (x1 - 3))] [] m (cI fun r5 m6 => Q (.inl (some (pI r5))) m6 c n)) ∧ (¬ x1 = 3 → ((x1 = 4 → Wp g (d + 3) MX5_stages 0 [some (pO 20 9 0), some (pI (x1 - 3))] [] m (cI fun r8 m9 => Q (.inl (some (pI r8))) m9 c n)) ∧ (¬ x1 = 4 → ((x1 = 5 → Wp g (d + 3) MX5_stages 0 [some (pO 20 9 0), some (pI (x1 - 3))] [] m (cI fun r11 m12 => Q (.inl (some (pI r11))) m12 c n)) ∧ (¬ x1 = 5 → ((x1 = 6 → Wp g (d + 3) MX5_stages 0 [some (pO 20 9 0), some (pI (x1 - 3))] [] m (cI fun r14 m15 => Q (.inl (some (pI r14))) m15 c n)) ∧ (¬ x1 = 6 → ((x1 = 7 → Wp g (d + 3) MX5_sumOfExaminers 0 [some (pO 20 9 0), some (pI (x1 - 7))] [] m (cI fun r17 m18 => Q (.inl (some (pI r17))) m18 c n)) ∧ (¬ x1 = 7 → ((x1 = 8 → Wp g (d + 3) MX5_sumOfExaminers 0 [some (pO 20 9 0), some (pI (x1 - 7))] [] m (cI fun r20 m21 => Q (.inl (some (pI r20))) m21 c n)) ∧ (¬ x1 = 8 → ((x1 = 9 → Wp g (d + 3) MX5_sumOfPupils 0 [some (pO 20 9 0), some (pI 5)] [] m (cI fun r23 m24 => Q (.inl (some (pI r23))) m24 c n)) ∧ (¬ x1 = 9 → ((x1 = 10 → Q (.inl (some (pI (m.1 9 21 0 (ix 4))))) m c n) ∧ (¬ x1 = 10 → ((x1 = 11 → Wp g (d + 3) MX5_sumOfPupils 0 [some (pO 20 9 0), some (pI 7)] [] m (cI fun r27 m28 => Q (.inl (some (pI r27))) m28 c n)) ∧ (¬ x1 = 11 → ((x1 = 12 → Wp g (d + 3) MX5_sumOfExaminers 0 [some (pO 20 9 0), some (pI 2)] [] m (cI fun r30 m31 => Q (.inl (some (pI r30))) m31 c n)) ∧ (¬ x1 = 12 → ((x1 = 13 → Wp g (d + 3) MX5_sumOfDays 0 [some (pO 20 9 0)] [] m (cI fun r33 m34 => Q (.inl (some (pI r33))) m34 c n)) ∧ (¬ x1 = 13 → Q (.inl (some (pI (m.1 9 20 0 4)))) m c n))))))))))))))))))))))))))))) : Wq g (d + 4) MX5_counted c n 0 [some (pO 20 9 0), some (pI x1)] [] m Q := by
  refine Wq.few (ls' := [some (pO 20 9 0), some (pI x1)]) ⟨rfl, ⟨rfl, trivial⟩⟩ ?_
  refine Wq.iload_n (x := x1) dX5_counted_0 rfl ?_
  by_cases q1 : x1 = 0
  · replace h := h.1 q1
    refine Wq.tableIn (tgt := 72) dX5_counted_1 (by rw [q1]; decide) (by rw [q1]; decide) (by rw [q1]; rfl) (by decide) ?_
    refine Wq.aload_n (t := 20) (r := 9) (j := 0) dX5_counted_72 rfl ?_
    refine Wq.getf (v := pO 21 9 0) dX5_counted_73 fl_X5_7 ⟨rfl, rfl, by decide⟩ rfl ?_
    refine Wq.iload_n (x := x1) dX5_counted_76 rfl ?_
    refine Wq.iald dX5_counted_77 rfl h.1 ?_
    replace h := h.2
    exact Wq.iret dX5_counted_78 (⟨_, rfl, rfl⟩) h
  · replace h := h.2 q1
    by_cases q2 : x1 = 1
    · replace h := h.1 q2
      refine Wq.tableIn (tgt := 72) dX5_counted_1 (by rw [q2]; decide) (by rw [q2]; decide) (by rw [q2]; rfl) (by decide) ?_
      refine Wq.aload_n (t := 20) (r := 9) (j := 0) dX5_counted_72 rfl ?_
      refine Wq.getf (v := pO 21 9 0) dX5_counted_73 fl_X5_7 ⟨rfl, rfl, by decide⟩ rfl ?_
      refine Wq.iload_n (x := x1) dX5_counted_76 rfl ?_
      refine Wq.iald dX5_counted_77 rfl h.1 ?_
      replace h := h.2
      exact Wq.iret dX5_counted_78 (⟨_, rfl, rfl⟩) h
    · replace h := h.2 q2
      by_cases q3 : x1 = 2
      · replace h := h.1 q3
        refine Wq.tableIn (tgt := 72) dX5_counted_1 (by rw [q3]; decide) (by rw [q3]; decide) (by rw [q3]; rfl) (by decide) ?_
        refine Wq.aload_n (t := 20) (r := 9) (j := 0) dX5_counted_72 rfl ?_
        refine Wq.getf (v := pO 21 9 0) dX5_counted_73 fl_X5_7 ⟨rfl, rfl, by decide⟩ rfl ?_
        refine Wq.iload_n (x := x1) dX5_counted_76 rfl ?_
        refine Wq.iald dX5_counted_77 rfl h.1 ?_
        replace h := h.2
        exact Wq.iret dX5_counted_78 (⟨_, rfl, rfl⟩) h
      · replace h := h.2 q3
        by_cases q4 : x1 = 3
        · replace h := h.1 q4
          refine Wq.tableIn (tgt := 79) dX5_counted_1 (by rw [q4]; decide) (by rw [q4]; decide) (by rw [q4]; rfl) (by decide) ?_
          refine Wq.aload_n (t := 20) (r := 9) (j := 0) dX5_counted_79 rfl ?_
          refine Wq.iload_n (x := x1) dX5_counted_80 rfl ?_
          refine Wq.iconst (v := 3) dX5_counted_81 (by decide) ?_
          refine Wq.isub dX5_counted_82 ?_
          refine Wq.callVI (As := [pI (x1 - 3)]) dX5_counted_83 fX5_stages ml_X5_188 rfl (by decide) rfl (Nat.le_of_ble_eq_true rfl) (Nat.le_of_ble_eq_true rfl) h (fun r5 m6 h => ?_)
          exact Wq.iret dX5_counted_86 (⟨_, rfl, rfl⟩) h
        · replace h := h.2 q4
          by_cases q7 : x1 = 4
          · replace h := h.1 q7
            refine Wq.tableIn (tgt := 79) dX5_counted_1 (by rw [q7]; decide) (by rw [q7]; decide) (by rw [q7]; rfl) (by decide) ?_
            refine Wq.aload_n (t := 20) (r := 9) (j := 0) dX5_counted_79 rfl ?_
            refine Wq.iload_n (x := x1) dX5_counted_80 rfl ?_
            refine Wq.iconst (v := 3) dX5_counted_81 (by decide) ?_
            refine Wq.isub dX5_counted_82 ?_
            refine Wq.callVI (As := [pI (x1 - 3)]) dX5_counted_83 fX5_stages ml_X5_188 rfl (by decide) rfl (Nat.le_of_ble_eq_true rfl) (Nat.le_of_ble_eq_true rfl) h (fun r8 m9 h => ?_)
            exact Wq.iret dX5_counted_86 (⟨_, rfl, rfl⟩) h
          · replace h := h.2 q7
            by_cases q10 : x1 = 5
            · replace h := h.1 q10
              refine Wq.tableIn (tgt := 79) dX5_counted_1 (by rw [q10]; decide) (by rw [q10]; decide) (by rw [q10]; rfl) (by decide) ?_
              refine Wq.aload_n (t := 20) (r := 9) (j := 0) dX5_counted_79 rfl ?_
              refine Wq.iload_n (x := x1) dX5_counted_80 rfl ?_
              refine Wq.iconst (v := 3) dX5_counted_81 (by decide) ?_
              refine Wq.isub dX5_counted_82 ?_
              refine Wq.callVI (As := [pI (x1 - 3)]) dX5_counted_83 fX5_stages ml_X5_188 rfl (by decide) rfl (Nat.le_of_ble_eq_true rfl) (Nat.le_of_ble_eq_true rfl) h (fun r11 m12 h => ?_)
              exact Wq.iret dX5_counted_86 (⟨_, rfl, rfl⟩) h
            · replace h := h.2 q10
              by_cases q13 : x1 = 6
              · replace h := h.1 q13
                refine Wq.tableIn (tgt := 79) dX5_counted_1 (by rw [q13]; decide) (by rw [q13]; decide) (by rw [q13]; rfl) (by decide) ?_
                refine Wq.aload_n (t := 20) (r := 9) (j := 0) dX5_counted_79 rfl ?_
                refine Wq.iload_n (x := x1) dX5_counted_80 rfl ?_
                refine Wq.iconst (v := 3) dX5_counted_81 (by decide) ?_
                refine Wq.isub dX5_counted_82 ?_
                refine Wq.callVI (As := [pI (x1 - 3)]) dX5_counted_83 fX5_stages ml_X5_188 rfl (by decide) rfl (Nat.le_of_ble_eq_true rfl) (Nat.le_of_ble_eq_true rfl) h (fun r14 m15 h => ?_)
                exact Wq.iret dX5_counted_86 (⟨_, rfl, rfl⟩) h
              · replace h := h.2 q13
                by_cases q16 : x1 = 7
                · replace h := h.1 q16
                  refine Wq.tableIn (tgt := 87) dX5_counted_1 (by rw [q16]; decide) (by rw [q16]; decide) (by rw [q16]; rfl) (by decide) ?_
                  refine Wq.aload_n (t := 20) (r := 9) (j := 0) dX5_counted_87 rfl ?_
                  refine Wq.iload_n (x := x1) dX5_counted_88 rfl ?_
                  refine Wq.bipush (v := 7) dX5_counted_89 (by decide) ?_
                  refine Wq.isub dX5_counted_91 ?_
                  refine Wq.callVI (As := [pI (x1 - 7)]) dX5_counted_92 fX5_sumOfExaminers ml_X5_191 rfl (by decide) rfl (Nat.le_of_ble_eq_true rfl) (Nat.le_of_ble_eq_true rfl) h (fun r17 m18 h => ?_)
                  exact Wq.iret dX5_counted_95 (⟨_, rfl, rfl⟩) h
                · replace h := h.2 q16
                  by_cases q19 : x1 = 8
                  · replace h := h.1 q19
                    refine Wq.tableIn (tgt := 87) dX5_counted_1 (by rw [q19]; decide) (by rw [q19]; decide) (by rw [q19]; rfl) (by decide) ?_
                    refine Wq.aload_n (t := 20) (r := 9) (j := 0) dX5_counted_87 rfl ?_
                    refine Wq.iload_n (x := x1) dX5_counted_88 rfl ?_
                    refine Wq.bipush (v := 7) dX5_counted_89 (by decide) ?_
                    refine Wq.isub dX5_counted_91 ?_
                    refine Wq.callVI (As := [pI (x1 - 7)]) dX5_counted_92 fX5_sumOfExaminers ml_X5_191 rfl (by decide) rfl (Nat.le_of_ble_eq_true rfl) (Nat.le_of_ble_eq_true rfl) h (fun r20 m21 h => ?_)
                    exact Wq.iret dX5_counted_95 (⟨_, rfl, rfl⟩) h
                  · replace h := h.2 q19
                    by_cases q22 : x1 = 9
                    · replace h := h.1 q22
                      refine Wq.tableIn (tgt := 96) dX5_counted_1 (by rw [q22]; decide) (by rw [q22]; decide) (by rw [q22]; rfl) (by decide) ?_
                      refine Wq.aload_n (t := 20) (r := 9) (j := 0) dX5_counted_96 rfl ?_
                      refine Wq.iconst (v := 5) dX5_counted_97 (by decide) ?_
                      refine Wq.callVI (As := [pI 5]) dX5_counted_98 fX5_sumOfPupils ml_X5_194 rfl (by decide) rfl (Nat.le_of_ble_eq_true rfl) (Nat.le_of_ble_eq_true rfl) h (fun r23 m24 h => ?_)
                      exact Wq.iret dX5_counted_101 (⟨_, rfl, rfl⟩) h
                    · replace h := h.2 q22
                      by_cases q25 : x1 = 10
                      · replace h := h.1 q25
                        refine Wq.tableIn (tgt := 102) dX5_counted_1 (by rw [q25]; decide) (by rw [q25]; decide) (by rw [q25]; rfl) (by decide) ?_
                        refine Wq.aload_n (t := 20) (r := 9) (j := 0) dX5_counted_102 rfl ?_
                        refine Wq.getf (v := pO 21 9 0) dX5_counted_103 fl_X5_7 ⟨rfl, rfl, by decide⟩ rfl ?_
                        refine Wq.iconst (v := 4) dX5_counted_106 (by decide) ?_
                        refine Wq.iald dX5_counted_107 rfl (vp_dec rfl) ?_
                        exact Wq.iret dX5_counted_108 (⟨_, rfl, rfl⟩) h
                      · replace h := h.2 q25
                        by_cases q26 : x1 = 11
                        · replace h := h.1 q26
                          refine Wq.tableIn (tgt := 109) dX5_counted_1 (by rw [q26]; decide) (by rw [q26]; decide) (by rw [q26]; rfl) (by decide) ?_
                          refine Wq.aload_n (t := 20) (r := 9) (j := 0) dX5_counted_109 rfl ?_
                          refine Wq.bipush (v := 7) dX5_counted_110 (by decide) ?_
                          refine Wq.callVI (As := [pI 7]) dX5_counted_112 fX5_sumOfPupils ml_X5_194 rfl (by decide) rfl (Nat.le_of_ble_eq_true rfl) (Nat.le_of_ble_eq_true rfl) h (fun r27 m28 h => ?_)
                          exact Wq.iret dX5_counted_115 (⟨_, rfl, rfl⟩) h
                        · replace h := h.2 q26
                          by_cases q29 : x1 = 12
                          · replace h := h.1 q29
                            refine Wq.tableIn (tgt := 116) dX5_counted_1 (by rw [q29]; decide) (by rw [q29]; decide) (by rw [q29]; rfl) (by decide) ?_
                            refine Wq.aload_n (t := 20) (r := 9) (j := 0) dX5_counted_116 rfl ?_
                            refine Wq.iconst (v := 2) dX5_counted_117 (by decide) ?_
                            refine Wq.callVI (As := [pI 2]) dX5_counted_118 fX5_sumOfExaminers ml_X5_191 rfl (by decide) rfl (Nat.le_of_ble_eq_true rfl) (Nat.le_of_ble_eq_true rfl) h (fun r30 m31 h => ?_)
                            exact Wq.iret dX5_counted_121 (⟨_, rfl, rfl⟩) h
                          · replace h := h.2 q29
                            by_cases q32 : x1 = 13
                            · replace h := h.1 q32
                              refine Wq.tableIn (tgt := 122) dX5_counted_1 (by rw [q32]; decide) (by rw [q32]; decide) (by rw [q32]; rfl) (by decide) ?_
                              refine Wq.aload_n (t := 20) (r := 9) (j := 0) dX5_counted_122 rfl ?_
                              refine Wq.callVI (As := []) dX5_counted_123 fX5_sumOfDays ml_X5_197 rfl (by decide) rfl (Nat.le_of_ble_eq_true rfl) (Nat.le_of_ble_eq_true rfl) h (fun r33 m34 h => ?_)
                              exact Wq.iret dX5_counted_126 (⟨_, rfl, rfl⟩) h
                            · replace h := h.2 q32
                              refine Wq.tableOut (tgt := 127) dX5_counted_1 (sw_out14 q1 q2 q3 q4 q7 q10 q13 q16 q19 q22 q25 q26 q29 q32) (by decide) ?_
                              refine Wq.aload_n (t := 20) (r := 9) (j := 0) dX5_counted_127 rfl ?_
                              refine Wq.getf (v := pI (m.1 9 20 0 4)) dX5_counted_128 fl_X5_49 ⟨rfl, rfl, by decide⟩ rfl ?_
                              exact Wq.iret dX5_counted_131 (⟨_, rfl, rfl⟩) h
set_option maxHeartbeats 4000000 in
set_option maxRecDepth 20000 in
theorem sgX5_earliest {g : GG} {d : Nat} {c n : Nat} {m : PM} {Q : Ou → PM → Nat → Nat → Prop} {x1 : Int32} {x2 : Int32} (h : (((¬ x1 < (0 : Int32)) ∧ (¬ ((m.1 9 21 0 (ix 2)) - 1) < x1) → (((¬ x2 < (0 : Int32)) ∧ (¬ (2 : Int32) < x2) → Wp g (d + 3) MX5_earliestOf 0 [some (pO 20 9 0), some (pI x1)] [] (setI m 20 9 0 0 0) (cI fun r3 m4 => Q (.inl (some (pI ((if ¬ r3 = (-1) then (if ¬ x2 = 0 then (if ¬ x2 = 1 then (irm r3 4) else (irm (r3 / 4) 4)) else (r3 / 16)) else (-1)) : Int32)))) m4 c n)) ∧ (¬ ((¬ x2 < (0 : Int32)) ∧ (¬ (2 : Int32) < x2)) → Q (.inl (some (pI 0))) (setI m 20 9 0 0 2) c n))) ∧ (¬ ((¬ x1 < (0 : Int32)) ∧ (¬ ((m.1 9 21 0 (ix 2)) - 1) < x1)) → Q (.inl (some (pI 0))) (setI m 20 9 0 0 1) c n))) : Wq g (d + 4) MX5_earliest c n 0 [some (pO 20 9 0), some (pI x1), some (pI x2)] [] m Q := by
  refine Wq.few (ls' := [some (pO 20 9 0), some (pI x1), some (pI x2)]) ⟨rfl, ⟨rfl, ⟨rfl, trivial⟩⟩⟩ ?_
  refine Wq.aload_n (t := 20) (r := 9) (j := 0) dX5_earliest_0 rfl ?_
  refine Wq.aload_n (t := 20) (r := 9) (j := 0) dX5_earliest_1 rfl ?_
  refine Wq.iload_n (x := x1) dX5_earliest_2 rfl ?_
  refine Wq.callVI (As := [pI x1]) dX5_earliest_3 fX5_isPupil ml_X5_99 rfl (by decide) rfl (Nat.le_of_ble_eq_true rfl) (Nat.le_of_ble_eq_true rfl) (suX5_isPupil trivial) (fun x7 m9 e9 => ?_)
  obtain ⟨rfl, rfl⟩ := e9
  refine Wq.ifne (tgt := 13) dX5_earliest_6 (by decide) (fun q1 => ?_) (fun q1 => ?_)
  · replace h := h.1 (bI_1 q1)
    refine Wq.iload_n (x := x2) dX5_earliest_13 rfl ?_
    refine Wq.iconst (v := 0) dX5_earliest_14 (by decide) ?_
    refine Wq.iconst (v := 2) dX5_earliest_15 (by decide) ?_
    refine Wq.callSI (As := [pI x2, pI 0, pI 2]) dX5_earliest_16 fX5_in ml_X5_45 rfl (Nat.le_of_ble_eq_true rfl) (Nat.le_of_ble_eq_true rfl) (suX5_in trivial) (fun x6 m9 e9 => ?_)
    obtain ⟨rfl, rfl⟩ := e9
    refine Wq.ifne (tgt := 26) dX5_earliest_19 (by decide) (fun q2 => ?_) (fun q2 => ?_)
    · replace h := h.1 (bI_1 q2)
      refine Wq.iconst (v := 0) dX5_earliest_26 (by decide) ?_
      refine Wq.callVI (As := [pI 0]) dX5_earliest_27 fX5_holds ml_X5_86 rfl (by decide) rfl (Nat.le_of_ble_eq_true rfl) (Nat.le_of_ble_eq_true rfl) ?_ (fun _ _ h9 => h9)
      refine Wq.few (ls' := [some (pO 20 9 0), some (pI 0)]) ⟨rfl, ⟨rfl, trivial⟩⟩ ?_
      refine Wq.aload_n (t := 20) (r := 9) (j := 0) dX5_holds_0 rfl ?_
      refine Wq.iload_n (x := 0) dX5_holds_1 rfl ?_
      refine Wq.putI dX5_holds_2 fw_X5_41 ⟨rfl, rfl, by decide⟩ ⟨rfl, by decide, by decide⟩ ⟨rfl, rfl⟩ ?_
      refine Wq.iload_n (x := 0) dX5_holds_5 rfl ?_
      refine Wq.ifne (tgt := 13) dX5_holds_6 (by decide) (fun q9 => absurd q9 (by decide)) (fun _ => ?_)
      refine Wq.iconst (v := 1) dX5_holds_9 (by decide) ?_
      refine Wq.goto (tgt := 14) dX5_holds_10 (by decide) ?_
      refine Wq.iretI dX5_holds_14 (⟨_, rfl, by decide⟩) ?_
      refine Wq.ifeq (tgt := 45) dX5_earliest_30 (by decide) (fun q9 => absurd q9 (by decide)) (fun _ => ?_)
      refine Wq.aload_n (t := 20) (r := 9) (j := 0) dX5_earliest_33 rfl ?_
      refine Wq.iload_n (x := x1) dX5_earliest_34 rfl ?_
      refine Wq.callVI (As := [pI x1]) dX5_earliest_35 fX5_earliestOf ml_X5_83 rfl (by decide) rfl (Nat.le_of_ble_eq_true rfl) (Nat.le_of_ble_eq_true rfl) h (fun r3 m4 h => ?_)
      refine Wq.iload_n (x := x2) dX5_earliest_38 rfl ?_
      refine Wq.callSI (As := [pI r3, pI x2]) dX5_earliest_39 fX5_told ml_X5_178 rfl (Nat.le_of_ble_eq_true rfl) (Nat.le_of_ble_eq_true rfl) (suX5_told trivial) (fun x5 m9 e9 => ?_)
      obtain ⟨rfl, rfl⟩ := e9
      refine Wq.goto (tgt := 46) dX5_earliest_42 (by decide) ?_
      exact Wq.iret dX5_earliest_46 (⟨_, rfl, rfl⟩) h
    · replace h := h.2 (bI_0 q2)
      refine Wq.iconst (v := 2) dX5_earliest_22 (by decide) ?_
      refine Wq.goto (tgt := 27) dX5_earliest_23 (by decide) ?_
      refine Wq.callVI (As := [pI 2]) dX5_earliest_27 fX5_holds ml_X5_86 rfl (by decide) rfl (Nat.le_of_ble_eq_true rfl) (Nat.le_of_ble_eq_true rfl) ?_ (fun _ _ h9 => h9)
      refine Wq.few (ls' := [some (pO 20 9 0), some (pI 2)]) ⟨rfl, ⟨rfl, trivial⟩⟩ ?_
      refine Wq.aload_n (t := 20) (r := 9) (j := 0) dX5_holds_0 rfl ?_
      refine Wq.iload_n (x := 2) dX5_holds_1 rfl ?_
      refine Wq.putI dX5_holds_2 fw_X5_41 ⟨rfl, rfl, by decide⟩ ⟨rfl, by decide, by decide⟩ ⟨rfl, rfl⟩ ?_
      refine Wq.iload_n (x := 2) dX5_holds_5 rfl ?_
      refine Wq.ifne (tgt := 13) dX5_holds_6 (by decide) (fun _ => ?_) (fun q9 => absurd q9 (by decide))
      refine Wq.iconst (v := 0) dX5_holds_13 (by decide) ?_
      refine Wq.iretI dX5_holds_14 (⟨_, rfl, by decide⟩) ?_
      refine Wq.ifeq (tgt := 45) dX5_earliest_30 (by decide) (fun _ => ?_) (fun q9 => absurd q9 (by decide))
      refine Wq.iconst (v := 0) dX5_earliest_45 (by decide) ?_
      exact Wq.iret dX5_earliest_46 (⟨_, rfl, rfl⟩) h
  · replace h := h.2 (bI_0 q1)
    refine Wq.iconst (v := 1) dX5_earliest_9 (by decide) ?_
    refine Wq.goto (tgt := 27) dX5_earliest_10 (by decide) ?_
    refine Wq.callVI (As := [pI 1]) dX5_earliest_27 fX5_holds ml_X5_86 rfl (by decide) rfl (Nat.le_of_ble_eq_true rfl) (Nat.le_of_ble_eq_true rfl) ?_ (fun _ _ h9 => h9)
    refine Wq.few (ls' := [some (pO 20 9 0), some (pI 1)]) ⟨rfl, ⟨rfl, trivial⟩⟩ ?_
    refine Wq.aload_n (t := 20) (r := 9) (j := 0) dX5_holds_0 rfl ?_
    refine Wq.iload_n (x := 1) dX5_holds_1 rfl ?_
    refine Wq.putI dX5_holds_2 fw_X5_41 ⟨rfl, rfl, by decide⟩ ⟨rfl, by decide, by decide⟩ ⟨rfl, rfl⟩ ?_
    refine Wq.iload_n (x := 1) dX5_holds_5 rfl ?_
    refine Wq.ifne (tgt := 13) dX5_holds_6 (by decide) (fun _ => ?_) (fun q9 => absurd q9 (by decide))
    refine Wq.iconst (v := 0) dX5_holds_13 (by decide) ?_
    refine Wq.iretI dX5_holds_14 (⟨_, rfl, by decide⟩) ?_
    refine Wq.ifeq (tgt := 45) dX5_earliest_30 (by decide) (fun _ => ?_) (fun q9 => absurd q9 (by decide))
    refine Wq.iconst (v := 0) dX5_earliest_45 (by decide) ?_
    exact Wq.iret dX5_earliest_46 (⟨_, rfl, rfl⟩) h
set_option maxHeartbeats 4000000 in
set_option maxRecDepth 20000 in
theorem sgX5_could {g : GG} {d : Nat} {c n : Nat} {m : PM} {Q : Ou → PM → Nat → Nat → Prop} {x1 : Int32} (h : Wq g (d + 4) MX5_could c n 4 [some (pO 20 9 0), some (pI x1), some (pI 0), some (pI 0), none, none, none] [] m Q) : Wq g (d + 4) MX5_could c n 0 [some (pO 20 9 0), some (pI x1)] [] m Q := by
  refine Wq.few (ls' := [some (pO 20 9 0), some (pI x1), none, none, none, none, none]) ⟨rfl, ⟨rfl, trivial⟩⟩ ?_
  refine Wq.iconst (v := 0) dX5_could_0 (by decide) ?_
  refine Wq.istore_n (ls2 := [some (pO 20 9 0), some (pI x1), some (pI 0), none, none, none, none]) dX5_could_1 (by decide) rfl ?_
  refine Wq.iconst (v := 0) dX5_could_2 (by decide) ?_
  refine Wq.istore_n (ls2 := [some (pO 20 9 0), some (pI x1), some (pI 0), some (pI 0), none, none, none]) dX5_could_3 (by decide) rfl ?_
  exact h
set_option maxHeartbeats 4000000 in
set_option maxRecDepth 20000 in
theorem sgX5_could_4 {g : GG} {d : Nat} {c n : Nat} {m : PM} {Q : Ou → PM → Nat → Nat → Prop} {x1 : Int32} {x2 : Int32} {x3 : Int32} (h : ((16 ≤ x3 → Wq g (d + 4) MX5_could c n 25 [some (pO 20 9 0), some (pI x1), some (pI x2), some (pI 0), none, none, none] [] m Q) ∧ (¬ 16 ≤ x3 → (vp_in x3 16 ∧ Wq g (d + 4) MX5_could c n 4 [some (pO 20 9 0), some (pI x1), some (pI x2), some (pI (x3 + 1)), none, none, none] [] (setI m 27 9 0 (ix x3) (-1)) Q)))) : Wq g (d + 4) MX5_could c n 4 [some (pO 20 9 0), some (pI x1), some (pI x2), some (pI x3), none, none, none] [] m Q := by
  refine Wq.iload_n (x := x3) dX5_could_4 rfl ?_
  refine Wq.bipush (v := 16) dX5_could_5 (by decide) ?_
  refine Wq.icmpge (tgt := 23) dX5_could_7 (by decide) (fun q1 => ?_) (fun q1 => ?_)
  · replace h := h.1 q1
    refine Wq.iconst (v := 0) dX5_could_23 (by decide) ?_
    refine Wq.istore_n (ls2 := [some (pO 20 9 0), some (pI x1), some (pI x2), some (pI 0), none, none, none]) dX5_could_24 (by decide) rfl ?_
    exact h
  · replace h := h.2 q1
    refine Wq.aload_n (t := 20) (r := 9) (j := 0) dX5_could_10 rfl ?_
    refine Wq.getf (v := pO 27 9 0) dX5_could_11 fl_X5_28 ⟨rfl, rfl, by decide⟩ rfl ?_
    refine Wq.iload_n (x := x3) dX5_could_14 rfl ?_
    refine Wq.iconst (v := (-1)) dX5_could_15 (by decide) ?_
    refine Wq.iast dX5_could_16 rfl h.1 ?_
    replace h := h.2
    refine Wq.iinc (x := x3) (ls2 := [some (pO 20 9 0), some (pI x1), some (pI x2), some (pI (x3 + 1)), none, none, none]) dX5_could_17 rfl (by decide) rfl ?_
    refine Wq.goto (tgt := 4) dX5_could_20 (by decide) ?_
    exact h
set_option maxHeartbeats 4000000 in
set_option maxRecDepth 20000 in
theorem sgX5_could_25 {g : GG} {d : Nat} {c n : Nat} {m : PM} {Q : Ou → PM → Nat → Nat → Prop} {x1 : Int32} {x2 : Int32} {x3 : Int32} (h : ((12 ≤ x3 → Wq g (d + 4) MX5_could c n 46 [some (pO 20 9 0), some (pI x1), some (pI x2), some (pI 1), none, none, none] [] m Q) ∧ (¬ 12 ≤ x3 → (vp_in x3 12 ∧ Wq g (d + 4) MX5_could c n 25 [some (pO 20 9 0), some (pI x1), some (pI x2), some (pI (x3 + 1)), none, none, none] [] (setI m 28 9 0 (ix x3) (-1)) Q)))) : Wq g (d + 4) MX5_could c n 25 [some (pO 20 9 0), some (pI x1), some (pI x2), some (pI x3), none, none, none] [] m Q := by
  refine Wq.iload_n (x := x3) dX5_could_25 rfl ?_
  refine Wq.bipush (v := 12) dX5_could_26 (by decide) ?_
  refine Wq.icmpge (tgt := 44) dX5_could_28 (by decide) (fun q1 => ?_) (fun q1 => ?_)
  · replace h := h.1 q1
    refine Wq.iconst (v := 1) dX5_could_44 (by decide) ?_
    refine Wq.istore_n (ls2 := [some (pO 20 9 0), some (pI x1), some (pI x2), some (pI 1), none, none, none]) dX5_could_45 (by decide) rfl ?_
    exact h
  · replace h := h.2 q1
    refine Wq.aload_n (t := 20) (r := 9) (j := 0) dX5_could_31 rfl ?_
    refine Wq.getf (v := pO 28 9 0) dX5_could_32 fl_X5_31 ⟨rfl, rfl, by decide⟩ rfl ?_
    refine Wq.iload_n (x := x3) dX5_could_35 rfl ?_
    refine Wq.iconst (v := (-1)) dX5_could_36 (by decide) ?_
    refine Wq.iast dX5_could_37 rfl h.1 ?_
    replace h := h.2
    refine Wq.iinc (x := x3) (ls2 := [some (pO 20 9 0), some (pI x1), some (pI x2), some (pI (x3 + 1)), none, none, none]) dX5_could_38 rfl (by decide) rfl ?_
    refine Wq.goto (tgt := 25) dX5_could_41 (by decide) ?_
    exact h
set_option maxHeartbeats 4000000 in
set_option maxRecDepth 20000 in
theorem sgX5_could_46 {g : GG} {d : Nat} {c n : Nat} {m : PM} {Q : Ou → PM → Nat → Nat → Prop} {x1 : Int32} {x2 : Int32} {x3 : Int32} (h : ((x3 = 0 → Q (.inl (some (pI x2))) m c n) ∧ (¬ x3 = 0 → Wq g (d + 4) MX5_could c n 53 [some (pO 20 9 0), some (pI x1), some (pI x2), none, some (pI 0), none, none] [] m Q))) : Wq g (d + 4) MX5_could c n 46 [some (pO 20 9 0), some (pI x1), some (pI x2), some (pI x3), none, none, none] [] m Q := by
  refine Wq.iload_n (x := x3) dX5_could_46 rfl ?_
  refine Wq.ifeq (tgt := 215) dX5_could_47 (by decide) (fun q1 => ?_) (fun q1 => ?_)
  · replace h := h.1 q1
    refine Wq.iload_n (x := x2) dX5_could_215 rfl ?_
    exact Wq.iret dX5_could_216 (⟨_, rfl, rfl⟩) h
  · replace h := h.2 q1
    refine Wq.iconst (v := 0) dX5_could_50 (by decide) ?_
    refine Wq.istore (ls2 := [some (pO 20 9 0), some (pI x1), some (pI x2), some (pI x3), some (pI 0), none, none]) dX5_could_51 (by decide) rfl ?_
    refine Wq.few (ls' := [some (pO 20 9 0), some (pI x1), some (pI x2), none, some (pI 0), none, none]) ⟨rfl, ⟨rfl, ⟨rfl, ⟨rfl, trivial⟩⟩⟩⟩ ?_
    exact h
set_option maxHeartbeats 4000000 in
set_option maxRecDepth 20000 in
theorem sgX5_could_53 {g : GG} {d : Nat} {c n : Nat} {m : PM} {Q : Ou → PM → Nat → Nat → Prop} {x1 : Int32} {x2 : Int32} {x4 : Int32} (h : ((16 ≤ x4 → Wq g (d + 4) MX5_could c n 77 [some (pO 20 9 0), some (pI x1), some (pI x2), none, some (pI 0), none, none] [] m Q) ∧ (¬ 16 ≤ x4 → (vp_in x4 16 ∧ Wq g (d + 4) MX5_could c n 53 [some (pO 20 9 0), some (pI x1), some (pI x2), none, some (pI (x4 + 1)), none, none] [] (setI m 29 9 0 (ix x4) (-1)) Q)))) : Wq g (d + 4) MX5_could c n 53 [some (pO 20 9 0), some (pI x1), some (pI x2), none, some (pI x4), none, none] [] m Q := by
  refine Wq.iload (x := x4) dX5_could_53 rfl ?_
  refine Wq.bipush (v := 16) dX5_could_55 (by decide) ?_
  refine Wq.icmpge (tgt := 74) dX5_could_57 (by decide) (fun q1 => ?_) (fun q1 => ?_)
  · replace h := h.1 q1
    refine Wq.iconst (v := 0) dX5_could_74 (by decide) ?_
    refine Wq.istore (ls2 := [some (pO 20 9 0), some (pI x1), some (pI x2), none, some (pI 0), none, none]) dX5_could_75 (by decide) rfl ?_
    exact h
  · replace h := h.2 q1
    refine Wq.aload_n (t := 20) (r := 9) (j := 0) dX5_could_60 rfl ?_
    refine Wq.getf (v := pO 29 9 0) dX5_could_61 fl_X5_34 ⟨rfl, rfl, by decide⟩ rfl ?_
    refine Wq.iload (x := x4) dX5_could_64 rfl ?_
    refine Wq.iconst (v := (-1)) dX5_could_66 (by decide) ?_
    refine Wq.iast dX5_could_67 rfl h.1 ?_
    replace h := h.2
    refine Wq.iinc (x := x4) (ls2 := [some (pO 20 9 0), some (pI x1), some (pI x2), none, some (pI (x4 + 1)), none, none]) dX5_could_68 rfl (by decide) rfl ?_
    refine Wq.goto (tgt := 53) dX5_could_71 (by decide) ?_
    exact h
set_option maxHeartbeats 4000000 in
set_option maxRecDepth 20000 in
theorem sgX5_could_77 {g : GG} {d : Nat} {c n : Nat} {m : PM} {Q : Ou → PM → Nat → Nat → Prop} {x1 : Int32} {x2 : Int32} {x4 : Int32} (h : (((m.1 9 21 0 (ix 2)) ≤ x4 → Wp g (d + 3) MX5_goAlong 0 [some (pO 20 9 0), some (pI x1)] [] m (cI fun r2 m3 => ((r2 = (-1) → Wq g (d + 4) MX5_could c n 163 [some (pO 20 9 0), some (pI x1), some (pI (x2 + 0)), some (pI 0), some (pI r2), none, none] [] m3 Q) ∧ (¬ r2 = (-1) → Wq g (d + 4) MX5_could c n 163 [some (pO 20 9 0), some (pI x1), some (pI (x2 + 1)), some (pI 1), some (pI r2), none, none] [] m3 Q)))) ∧ (¬ (m.1 9 21 0 (ix 2)) ≤ x4 → (vp_in ((197 + (12 * x4)) + (0 : Int32)) 341 ∧ ((2 ≤ (m.1 9 21 0 (ix ((197 + (12 * x4)) + (0 : Int32)))) → (vp_in x4 12 ∧ Wq g (d + 4) MX5_could c n 77 [some (pO 20 9 0), some (pI x1), some (pI x2), none, some (pI (x4 + 1)), none, none] [] (setI m 30 9 0 (ix x4) 0) Q)) ∧ (¬ 2 ≤ (m.1 9 21 0 (ix ((197 + (12 * x4)) + (0 : Int32)))) → (vp_in x4 12 ∧ ((¬ (m.1 9 28 0 (ix x4)) = (-1) → (vp_in x4 12 ∧ Wq g (d + 4) MX5_could c n 77 [some (pO 20 9 0), some (pI x1), some (pI x2), none, some (pI (x4 + 1)), none, none] [] (setI m 30 9 0 (ix x4) 0) Q)) ∧ ((m.1 9 28 0 (ix x4)) = (-1) → (vp_in x4 12 ∧ Wq g (d + 4) MX5_could c n 77 [some (pO 20 9 0), some (pI x1), some (pI x2), none, some (pI (x4 + 1)), none, none] [] (setI m 30 9 0 (ix x4) 1) Q)))))))))) : Wq g (d + 4) MX5_could c n 77 [some (pO 20 9 0), some (pI x1), some (pI x2), none, some (pI x4), none, none] [] m Q := by
  refine Wq.iload (x := x4) dX5_could_77 rfl ?_
  refine Wq.aload_n (t := 20) (r := 9) (j := 0) dX5_could_79 rfl ?_
  refine Wq.getf (v := pO 21 9 0) dX5_could_80 fl_X5_7 ⟨rfl, rfl, by decide⟩ rfl ?_
  refine Wq.iconst (v := 2) dX5_could_83 (by decide) ?_
  refine Wq.iald dX5_could_84 rfl (vp_dec rfl) ?_
  refine Wq.icmpge (tgt := 132) dX5_could_85 (by decide) (fun q1 => ?_) (fun q1 => ?_)
  · replace h := h.1 q1
    refine Wq.aload_n (t := 20) (r := 9) (j := 0) dX5_could_132 rfl ?_
    refine Wq.iload_n (x := x1) dX5_could_133 rfl ?_
    refine Wq.callVI (As := [pI x1]) dX5_could_134 fX5_goAlong ml_X5_206 rfl (by decide) rfl (Nat.le_of_ble_eq_true rfl) (Nat.le_of_ble_eq_true rfl) h (fun r2 m3 h => ?_)
    refine Wq.istore (ls2 := [some (pO 20 9 0), some (pI x1), some (pI x2), none, some (pI r2), none, none]) dX5_could_137 (by decide) rfl ?_
    refine Wq.iload (x := r2) dX5_could_139 rfl ?_
    refine Wq.iconst (v := (-1)) dX5_could_141 (by decide) ?_
    refine Wq.icmpeq (tgt := 149) dX5_could_142 (by decide) (fun q4 => ?_) (fun q4 => ?_)
    · replace h := h.1 q4
      refine Wq.iconst (v := 0) dX5_could_149 (by decide) ?_
      refine Wq.istore_n (ls2 := [some (pO 20 9 0), some (pI x1), some (pI x2), some (pI 0), some (pI r2), none, none]) dX5_could_150 (by decide) rfl ?_
      refine Wq.iload_n (x := x2) dX5_could_151 rfl ?_
      refine Wq.iload_n (x := 0) dX5_could_152 rfl ?_
      refine Wq.ifeq (tgt := 160) dX5_could_153 (by decide) (fun _ => ?_) (fun q9 => absurd q9 (by decide))
      refine Wq.iconst (v := 0) dX5_could_160 (by decide) ?_
      refine Wq.iadd dX5_could_161 ?_
      refine Wq.istore_n (ls2 := [some (pO 20 9 0), some (pI x1), some (pI (x2 + 0)), some (pI 0), some (pI r2), none, none]) dX5_could_162 (by decide) rfl ?_
      exact h
    · replace h := h.2 q4
      refine Wq.iconst (v := 1) dX5_could_145 (by decide) ?_
      refine Wq.goto (tgt := 150) dX5_could_146 (by decide) ?_
      refine Wq.istore_n (ls2 := [some (pO 20 9 0), some (pI x1), some (pI x2), some (pI 1), some (pI r2), none, none]) dX5_could_150 (by decide) rfl ?_
      refine Wq.iload_n (x := x2) dX5_could_151 rfl ?_
      refine Wq.iload_n (x := 1) dX5_could_152 rfl ?_
      refine Wq.ifeq (tgt := 160) dX5_could_153 (by decide) (fun q9 => absurd q9 (by decide)) (fun _ => ?_)
      refine Wq.iconst (v := 1) dX5_could_156 (by decide) ?_
      refine Wq.goto (tgt := 161) dX5_could_157 (by decide) ?_
      refine Wq.iadd dX5_could_161 ?_
      refine Wq.istore_n (ls2 := [some (pO 20 9 0), some (pI x1), some (pI (x2 + 1)), some (pI 1), some (pI r2), none, none]) dX5_could_162 (by decide) rfl ?_
      exact h
  · replace h := h.2 q1
    refine Wq.aload_n (t := 20) (r := 9) (j := 0) dX5_could_88 rfl ?_
    refine Wq.getf (v := pO 30 9 0) dX5_could_89 fl_X5_37 ⟨rfl, rfl, by decide⟩ rfl ?_
    refine Wq.iload (x := x4) dX5_could_92 rfl ?_
    refine Wq.aload_n (t := 20) (r := 9) (j := 0) dX5_could_94 rfl ?_
    refine Wq.getf (v := pO 21 9 0) dX5_could_95 fl_X5_7 ⟨rfl, rfl, by decide⟩ rfl ?_
    refine Wq.iload (x := x4) dX5_could_98 rfl ?_
    refine Wq.iconst (v := 0) dX5_could_100 (by decide) ?_
    refine Wq.callSI (As := [pI x4, pI 0]) dX5_could_101 fX5_of ml_X5_69 rfl (Nat.le_of_ble_eq_true rfl) (Nat.le_of_ble_eq_true rfl) (suX5_of trivial) (fun x7 m9 e9 => ?_)
    obtain ⟨rfl, rfl⟩ := e9
    refine Wq.iald dX5_could_104 rfl h.1 ?_
    replace h := h.2
    refine Wq.iconst (v := 2) dX5_could_105 (by decide) ?_
    refine Wq.icmpge (tgt := 124) dX5_could_106 (by decide) (fun q5 => ?_) (fun q5 => ?_)
    · replace h := h.1 q5
      refine Wq.iconst (v := 0) dX5_could_124 (by decide) ?_
      refine Wq.zast dX5_could_125 rfl h.1 (by decide) ?_
      replace h := h.2
      refine Wq.iinc (x := x4) (ls2 := [some (pO 20 9 0), some (pI x1), some (pI x2), none, some (pI (x4 + 1)), none, none]) dX5_could_126 rfl (by decide) rfl ?_
      refine Wq.goto (tgt := 77) dX5_could_129 (by decide) ?_
      exact h
    · replace h := h.2 q5
      refine Wq.aload_n (t := 20) (r := 9) (j := 0) dX5_could_109 rfl ?_
      refine Wq.getf (v := pO 28 9 0) dX5_could_110 fl_X5_31 ⟨rfl, rfl, by decide⟩ rfl ?_
      refine Wq.iload (x := x4) dX5_could_113 rfl ?_
      refine Wq.iald dX5_could_115 rfl h.1 ?_
      replace h := h.2
      refine Wq.iconst (v := (-1)) dX5_could_116 (by decide) ?_
      refine Wq.icmpne (tgt := 124) dX5_could_117 (by decide) (fun q6 => ?_) (fun q6 => ?_)
      · replace h := h.1 q6
        refine Wq.iconst (v := 0) dX5_could_124 (by decide) ?_
        refine Wq.zast dX5_could_125 rfl h.1 (by decide) ?_
        replace h := h.2
        refine Wq.iinc (x := x4) (ls2 := [some (pO 20 9 0), some (pI x1), some (pI x2), none, some (pI (x4 + 1)), none, none]) dX5_could_126 rfl (by decide) rfl ?_
        refine Wq.goto (tgt := 77) dX5_could_129 (by decide) ?_
        exact h
      · replace h := h.2 q6
        refine Wq.iconst (v := 1) dX5_could_120 (by decide) ?_
        refine Wq.goto (tgt := 125) dX5_could_121 (by decide) ?_
        refine Wq.zast dX5_could_125 rfl h.1 (by decide) ?_
        replace h := h.2
        refine Wq.iinc (x := x4) (ls2 := [some (pO 20 9 0), some (pI x1), some (pI x2), none, some (pI (x4 + 1)), none, none]) dX5_could_126 rfl (by decide) rfl ?_
        refine Wq.goto (tgt := 77) dX5_could_129 (by decide) ?_
        exact h
set_option maxHeartbeats 4000000 in
set_option maxRecDepth 20000 in
theorem sgX5_could_163 {g : GG} {d : Nat} {c n : Nat} {m : PM} {Q : Ou → PM → Nat → Nat → Prop} {x1 : Int32} {x2 : Int32} {x3 : Int32} {x4 : Int32} (h : ((x4 = (-1) → Wq g (d + 4) MX5_could c n 46 [some (pO 20 9 0), some (pI x1), some (pI x2), some (pI x3), none, none, none] [] m Q) ∧ (¬ x4 = (-1) → (vp_in x4 16 ∧ (vp_in (m.1 9 29 0 (ix x4)) 12 ∧ (vp_in (m.1 9 29 0 (ix x4)) 12 ∧ (vp_in x4 16 ∧ Wq g (d + 4) MX5_could c n 163 [some (pO 20 9 0), some (pI x1), some (pI x2), some (pI x3), some (pI (m.1 9 28 0 (ix (m.1 9 29 0 (ix x4))))), none, none] [] (setI (setI m 28 9 0 (ix (m.1 9 29 0 (ix x4))) x4) 27 9 0 (ix x4) (m.1 9 29 0 (ix x4))) Q))))))) : Wq g (d + 4) MX5_could c n 163 [some (pO 20 9 0), some (pI x1), some (pI x2), some (pI x3), some (pI x4), none, none] [] m Q := by
  refine Wq.iload (x := x4) dX5_could_163 rfl ?_
  refine Wq.iconst (v := (-1)) dX5_could_165 (by decide) ?_
  refine Wq.icmpeq (tgt := 212) dX5_could_166 (by decide) (fun q1 => ?_) (fun q1 => ?_)
  · replace h := h.1 q1
    refine Wq.goto (tgt := 46) dX5_could_212 (by decide) ?_
    refine Wq.few (ls' := [some (pO 20 9 0), some (pI x1), some (pI x2), some (pI x3), none, none, none]) ⟨rfl, ⟨rfl, ⟨rfl, ⟨rfl, trivial⟩⟩⟩⟩ ?_
    exact h
  · replace h := h.2 q1
    refine Wq.aload_n (t := 20) (r := 9) (j := 0) dX5_could_169 rfl ?_
    refine Wq.getf (v := pO 29 9 0) dX5_could_170 fl_X5_34 ⟨rfl, rfl, by decide⟩ rfl ?_
    refine Wq.iload (x := x4) dX5_could_173 rfl ?_
    refine Wq.iald dX5_could_175 rfl h.1 ?_
    replace h := h.2
    refine Wq.istore (ls2 := [some (pO 20 9 0), some (pI x1), some (pI x2), some (pI x3), some (pI x4), some (pI (m.1 9 29 0 (ix x4))), none]) dX5_could_176 (by decide) rfl ?_
    refine Wq.aload_n (t := 20) (r := 9) (j := 0) dX5_could_178 rfl ?_
    refine Wq.getf (v := pO 28 9 0) dX5_could_179 fl_X5_31 ⟨rfl, rfl, by decide⟩ rfl ?_
    refine Wq.iload (x := (m.1 9 29 0 (ix x4))) dX5_could_182 rfl ?_
    refine Wq.iald dX5_could_184 rfl h.1 ?_
    replace h := h.2
    refine Wq.istore (ls2 := [some (pO 20 9 0), some (pI x1), some (pI x2), some (pI x3), some (pI x4), some (pI (m.1 9 29 0 (ix x4))), some (pI (m.1 9 28 0 (ix (m.1 9 29 0 (ix x4)))))]) dX5_could_185 (by decide) rfl ?_
    refine Wq.aload_n (t := 20) (r := 9) (j := 0) dX5_could_187 rfl ?_
    refine Wq.getf (v := pO 28 9 0) dX5_could_188 fl_X5_31 ⟨rfl, rfl, by decide⟩ rfl ?_
    refine Wq.iload (x := (m.1 9 29 0 (ix x4))) dX5_could_191 rfl ?_
    refine Wq.iload (x := x4) dX5_could_193 rfl ?_
    refine Wq.iast dX5_could_195 rfl h.1 ?_
    replace h := h.2
    refine Wq.aload_n (t := 20) (r := 9) (j := 0) dX5_could_196 rfl ?_
    refine Wq.getf (v := pO 27 9 0) dX5_could_197 fl_X5_28 ⟨rfl, rfl, by decide⟩ rfl ?_
    refine Wq.iload (x := x4) dX5_could_200 rfl ?_
    refine Wq.iload (x := (m.1 9 29 0 (ix x4))) dX5_could_202 rfl ?_
    refine Wq.iast dX5_could_204 rfl h.1 ?_
    replace h := h.2
    refine Wq.iload (x := (m.1 9 28 0 (ix (m.1 9 29 0 (ix x4))))) dX5_could_205 rfl ?_
    refine Wq.istore (ls2 := [some (pO 20 9 0), some (pI x1), some (pI x2), some (pI x3), some (pI (m.1 9 28 0 (ix (m.1 9 29 0 (ix x4))))), some (pI (m.1 9 29 0 (ix x4))), some (pI (m.1 9 28 0 (ix (m.1 9 29 0 (ix x4)))))]) dX5_could_207 (by decide) rfl ?_
    refine Wq.goto (tgt := 163) dX5_could_209 (by decide) ?_
    refine Wq.few (ls' := [some (pO 20 9 0), some (pI x1), some (pI x2), some (pI x3), some (pI (m.1 9 28 0 (ix (m.1 9 29 0 (ix x4))))), none, none]) ⟨rfl, ⟨rfl, ⟨rfl, ⟨rfl, ⟨rfl, trivial⟩⟩⟩⟩⟩ ?_
    exact h
set_option maxHeartbeats 4000000 in
set_option maxRecDepth 20000 in
theorem sgX5_passedShare {g : GG} {d : Nat} {c n : Nat} {m : PM} {Q : Ou → PM → Nat → Nat → Prop}  (h : Wp g (d + 3) MX5_share 0 [some (pO 20 9 0)] [] (setI m 20 9 0 0 0) (cD fun r1 m2 => Q (.inl (some (pD r1))) m2 c n)) : Wq g (d + 4) MX5_passedShare c n 0 [some (pO 20 9 0)] [] m Q := by
  refine Wq.few (ls' := [some (pO 20 9 0)]) ⟨rfl, trivial⟩ ?_
  refine Wq.aload_n (t := 20) (r := 9) (j := 0) dX5_passedShare_0 rfl ?_
  refine Wq.iconst (v := 0) dX5_passedShare_1 (by decide) ?_
  refine Wq.putI dX5_passedShare_2 fw_X5_41 ⟨rfl, rfl, by decide⟩ ⟨rfl, by decide, by decide⟩ ⟨rfl, rfl⟩ ?_
  refine Wq.aload_n (t := 20) (r := 9) (j := 0) dX5_passedShare_5 rfl ?_
  refine Wq.callVD (As := []) dX5_passedShare_6 fX5_share ml_X5_212 rfl (by decide) rfl (Nat.le_of_ble_eq_true rfl) (Nat.le_of_ble_eq_true rfl) h (fun r1 m2 h => ?_)
  exact Wq.dret dX5_passedShare_9 rfl h
set_option maxHeartbeats 4000000 in
set_option maxRecDepth 20000 in
theorem sgX5_addExaminer {g : GG} {d : Nat} {c n : Nat} {m : PM} {Q : Ou → PM → Nat → Nat → Prop}  (h : ((¬ (m.1 9 21 0 (ix 1)) = 4 → Wp g (d + 4) MX5_save 0 [some (pO 20 9 0)] [] (setI m 20 9 0 0 0) (cV fun m3 => Wq g (d + 5) MX5_addExaminer c n 37 [some (pO 20 9 0), some (pI (m3.1 9 21 0 (ix 1))), some (pI 0)] [] m3 Q)) ∧ ((m.1 9 21 0 (ix 1)) = 4 → Q (.inl (some (pI 0))) (setI m 20 9 0 0 1) c n))) : Wq g (d + 5) MX5_addExaminer c n 0 [some (pO 20 9 0)] [] m Q := by
  refine Wq.few (ls' := [some (pO 20 9 0), none, none]) ⟨rfl, trivial⟩ ?_
  refine Wq.aload_n (t := 20) (r := 9) (j := 0) dX5_addExaminer_0 rfl ?_
  refine Wq.aload_n (t := 20) (r := 9) (j := 0) dX5_addExaminer_1 rfl ?_
  refine Wq.getf (v := pO 21 9 0) dX5_addExaminer_2 fl_X5_7 ⟨rfl, rfl, by decide⟩ rfl ?_
  refine Wq.iconst (v := 1) dX5_addExaminer_5 (by decide) ?_
  refine Wq.iald dX5_addExaminer_6 rfl (vp_dec rfl) ?_
  refine Wq.iconst (v := 4) dX5_addExaminer_7 (by decide) ?_
  refine Wq.icmpne (tgt := 15) dX5_addExaminer_8 (by decide) (fun q1 => ?_) (fun q1 => ?_)
  · replace h := h.1 q1
    refine Wq.iconst (v := 0) dX5_addExaminer_15 (by decide) ?_
    refine Wq.callVI (As := [pI 0]) dX5_addExaminer_16 fX5_holds ml_X5_86 rfl (by decide) rfl (Nat.le_of_ble_eq_true rfl) (Nat.le_of_ble_eq_true rfl) ?_ (fun _ _ h9 => h9)
    refine Wq.few (ls' := [some (pO 20 9 0), some (pI 0)]) ⟨rfl, ⟨rfl, trivial⟩⟩ ?_
    refine Wq.aload_n (t := 20) (r := 9) (j := 0) dX5_holds_0 rfl ?_
    refine Wq.iload_n (x := 0) dX5_holds_1 rfl ?_
    refine Wq.putI dX5_holds_2 fw_X5_41 ⟨rfl, rfl, by decide⟩ ⟨rfl, by decide, by decide⟩ ⟨rfl, rfl⟩ ?_
    refine Wq.iload_n (x := 0) dX5_holds_5 rfl ?_
    refine Wq.ifne (tgt := 13) dX5_holds_6 (by decide) (fun q9 => absurd q9 (by decide)) (fun _ => ?_)
    refine Wq.iconst (v := 1) dX5_holds_9 (by decide) ?_
    refine Wq.goto (tgt := 14) dX5_holds_10 (by decide) ?_
    refine Wq.iretI dX5_holds_14 (⟨_, rfl, by decide⟩) ?_
    refine Wq.ifne (tgt := 24) dX5_addExaminer_19 (by decide) (fun _ => ?_) (fun q9 => absurd q9 (by decide))
    refine Wq.aload_n (t := 20) (r := 9) (j := 0) dX5_addExaminer_24 rfl ?_
    refine Wq.callVV (As := []) dX5_addExaminer_25 fX5_save ml_X5_90 rfl (by decide) rfl (Nat.le_of_ble_eq_true rfl) (Nat.le_of_ble_eq_true rfl) h (fun m3 h => ?_)
    refine Wq.aload_n (t := 20) (r := 9) (j := 0) dX5_addExaminer_28 rfl ?_
    refine Wq.getf (v := pO 21 9 0) dX5_addExaminer_29 fl_X5_7 ⟨rfl, rfl, by decide⟩ rfl ?_
    refine Wq.iconst (v := 1) dX5_addExaminer_32 (by decide) ?_
    refine Wq.iald dX5_addExaminer_33 rfl (vp_dec rfl) ?_
    refine Wq.istore_n (ls2 := [some (pO 20 9 0), some (pI (m3.1 9 21 0 (ix 1))), none]) dX5_addExaminer_34 (by decide) rfl ?_
    refine Wq.iconst (v := 0) dX5_addExaminer_35 (by decide) ?_
    refine Wq.istore_n (ls2 := [some (pO 20 9 0), some (pI (m3.1 9 21 0 (ix 1))), some (pI 0)]) dX5_addExaminer_36 (by decide) rfl ?_
    exact h
  · replace h := h.2 q1
    refine Wq.iconst (v := 1) dX5_addExaminer_11 (by decide) ?_
    refine Wq.goto (tgt := 16) dX5_addExaminer_12 (by decide) ?_
    refine Wq.callVI (As := [pI 1]) dX5_addExaminer_16 fX5_holds ml_X5_86 rfl (by decide) rfl (Nat.le_of_ble_eq_true rfl) (Nat.le_of_ble_eq_true rfl) ?_ (fun _ _ h9 => h9)
    refine Wq.few (ls' := [some (pO 20 9 0), some (pI 1)]) ⟨rfl, ⟨rfl, trivial⟩⟩ ?_
    refine Wq.aload_n (t := 20) (r := 9) (j := 0) dX5_holds_0 rfl ?_
    refine Wq.iload_n (x := 1) dX5_holds_1 rfl ?_
    refine Wq.putI dX5_holds_2 fw_X5_41 ⟨rfl, rfl, by decide⟩ ⟨rfl, by decide, by decide⟩ ⟨rfl, rfl⟩ ?_
    refine Wq.iload_n (x := 1) dX5_holds_5 rfl ?_
    refine Wq.ifne (tgt := 13) dX5_holds_6 (by decide) (fun _ => ?_) (fun q9 => absurd q9 (by decide))
    refine Wq.iconst (v := 0) dX5_holds_13 (by decide) ?_
    refine Wq.iretI dX5_holds_14 (⟨_, rfl, by decide⟩) ?_
    refine Wq.ifne (tgt := 24) dX5_addExaminer_19 (by decide) (fun q9 => absurd q9 (by decide)) (fun _ => ?_)
    refine Wq.iconst (v := 0) dX5_addExaminer_22 (by decide) ?_
    exact Wq.iret dX5_addExaminer_23 (⟨_, rfl, rfl⟩) h
set_option maxHeartbeats 4000000 in
set_option maxRecDepth 20000 in
theorem sgX5_addExaminer_37 {g : GG} {d : Nat} {c n : Nat} {m : PM} {Q : Ou → PM → Nat → Nat → Prop} {x1 : Int32} {x2 : Int32} (h : ((40 ≤ x2 → Wq g (d + 5) MX5_addExaminer c n 66 [some (pO 20 9 0), some (pI x1), some (pI 0)] [] m Q) ∧ (¬ 40 ≤ x2 → (vp_in ((9 + (40 * x1)) + x2) 341 ∧ Wq g (d + 5) MX5_addExaminer c n 37 [some (pO 20 9 0), some (pI x1), some (pI (x2 + 1))] [] (setI m 21 9 0 (ix ((9 + (40 * x1)) + x2)) (-1)) Q)))) : Wq g (d + 5) MX5_addExaminer c n 37 [some (pO 20 9 0), some (pI x1), some (pI x2)] [] m Q := by
  refine Wq.iload_n (x := x2) dX5_addExaminer_37 rfl ?_
  refine Wq.bipush (v := 40) dX5_addExaminer_38 (by decide) ?_
  refine Wq.icmpge (tgt := 64) dX5_addExaminer_40 (by decide) (fun q1 => ?_) (fun q1 => ?_)
  · replace h := h.1 q1
    refine Wq.iconst (v := 0) dX5_addExaminer_64 (by decide) ?_
    refine Wq.istore_n (ls2 := [some (pO 20 9 0), some (pI x1), some (pI 0)]) dX5_addExaminer_65 (by decide) rfl ?_
    exact h
  · replace h := h.2 q1
    refine Wq.aload_n (t := 20) (r := 9) (j := 0) dX5_addExaminer_43 rfl ?_
    refine Wq.getf (v := pO 21 9 0) dX5_addExaminer_44 fl_X5_7 ⟨rfl, rfl, by decide⟩ rfl ?_
    refine Wq.bipush (v := 9) dX5_addExaminer_47 (by decide) ?_
    refine Wq.bipush (v := 40) dX5_addExaminer_49 (by decide) ?_
    refine Wq.iload_n (x := x1) dX5_addExaminer_51 rfl ?_
    refine Wq.imul dX5_addExaminer_52 ?_
    refine Wq.iadd dX5_addExaminer_53 ?_
    refine Wq.iload_n (x := x2) dX5_addExaminer_54 rfl ?_
    refine Wq.iadd dX5_addExaminer_55 ?_
    refine Wq.iconst (v := (-1)) dX5_addExaminer_56 (by decide) ?_
    refine Wq.iast dX5_addExaminer_57 rfl h.1 ?_
    replace h := h.2
    refine Wq.iinc (x := x2) (ls2 := [some (pO 20 9 0), some (pI x1), some (pI (x2 + 1))]) dX5_addExaminer_58 rfl (by decide) rfl ?_
    refine Wq.goto (tgt := 37) dX5_addExaminer_61 (by decide) ?_
    exact h
set_option maxHeartbeats 4000000 in
set_option maxRecDepth 20000 in
theorem sgX5_addExaminer_66 {g : GG} {d : Nat} {c n : Nat} {m : PM} {Q : Ou → PM → Nat → Nat → Prop} {x1 : Int32} {x2 : Int32} (h : ((7 ≤ x2 → Wp g (d + 4) MX5_giveOut 0 [some (pO 20 9 0)] [] (setI m 21 9 0 (ix 1) ((m.1 9 21 0 (ix 1)) + 1)) (cV fun m3 => Q (.inl (some (pI x1))) m3 c n)) ∧ (¬ 7 ≤ x2 → (vp_in ((169 + (7 * x1)) + x2) 341 ∧ Wq g (d + 5) MX5_addExaminer c n 66 [some (pO 20 9 0), some (pI x1), some (pI (x2 + 1))] [] (setI m 21 9 0 (ix ((169 + (7 * x1)) + x2)) 0) Q)))) : Wq g (d + 5) MX5_addExaminer c n 66 [some (pO 20 9 0), some (pI x1), some (pI x2)] [] m Q := by
  refine Wq.iload_n (x := x2) dX5_addExaminer_66 rfl ?_
  refine Wq.bipush (v := 7) dX5_addExaminer_67 (by decide) ?_
  refine Wq.icmpge (tgt := 89) dX5_addExaminer_69 (by decide) (fun q1 => ?_) (fun q1 => ?_)
  · replace h := h.1 q1
    refine Wq.aload_n (t := 20) (r := 9) (j := 0) dX5_addExaminer_89 rfl ?_
    refine Wq.getf (v := pO 21 9 0) dX5_addExaminer_90 fl_X5_7 ⟨rfl, rfl, by decide⟩ rfl ?_
    refine Wq.iconst (v := 1) dX5_addExaminer_93 (by decide) ?_
    refine Wq.dup2 dX5_addExaminer_94 rfl rfl ?_
    refine Wq.iald dX5_addExaminer_95 rfl (vp_dec rfl) ?_
    refine Wq.iconst (v := 1) dX5_addExaminer_96 (by decide) ?_
    refine Wq.iadd dX5_addExaminer_97 ?_
    refine Wq.iast dX5_addExaminer_98 rfl (vp_dec rfl) ?_
    refine Wq.aload_n (t := 20) (r := 9) (j := 0) dX5_addExaminer_99 rfl ?_
    refine Wq.callVV (As := []) dX5_addExaminer_100 fX5_giveOut ml_X5_96 rfl (by decide) rfl (Nat.le_of_ble_eq_true rfl) (Nat.le_of_ble_eq_true rfl) h (fun m3 h => ?_)
    refine Wq.iload_n (x := x1) dX5_addExaminer_103 rfl ?_
    exact Wq.iret dX5_addExaminer_104 (⟨_, rfl, rfl⟩) h
  · replace h := h.2 q1
    refine Wq.aload_n (t := 20) (r := 9) (j := 0) dX5_addExaminer_72 rfl ?_
    refine Wq.getf (v := pO 21 9 0) dX5_addExaminer_73 fl_X5_7 ⟨rfl, rfl, by decide⟩ rfl ?_
    refine Wq.iload_n (x := x1) dX5_addExaminer_76 rfl ?_
    refine Wq.iload_n (x := x2) dX5_addExaminer_77 rfl ?_
    refine Wq.callSI (As := [pI x1, pI x2]) dX5_addExaminer_78 fX5_ofExaminer ml_X5_93 rfl (Nat.le_of_ble_eq_true rfl) (Nat.le_of_ble_eq_true rfl) (suX5_ofExaminer trivial) (fun x4 m9 e9 => ?_)
    obtain ⟨rfl, rfl⟩ := e9
    refine Wq.iconst (v := 0) dX5_addExaminer_81 (by decide) ?_
    refine Wq.iast dX5_addExaminer_82 rfl h.1 ?_
    replace h := h.2
    refine Wq.iinc (x := x2) (ls2 := [some (pO 20 9 0), some (pI x1), some (pI (x2 + 1))]) dX5_addExaminer_83 rfl (by decide) rfl ?_
    refine Wq.goto (tgt := 66) dX5_addExaminer_86 (by decide) ?_
    exact h
set_option maxHeartbeats 4000000 in
set_option maxRecDepth 20000 in
theorem sgX5_asks {g : GG} {d : Nat} {c n : Nat} {m : PM} {Q : Ou → PM → Nat → Nat → Prop} {x1 : Int32} (h : (vp_in ((197 + (12 * x1)) + (7 : Int32)) 341 ∧ (vp_in ((197 + (12 * x1)) + (7 : Int32)) 341 ∧ (vp_in ((197 + (12 * x1)) + (8 : Int32)) 341 ∧ (vp_in ((197 + (12 * x1)) + (0 : Int32)) 341 ∧ (vp_in ((197 + (12 * x1)) + (6 : Int32)) 341 ∧ Wp g (d + 4) MX5_giveOut 0 [some (pO 20 9 0)] [] (setI (setI (setI (setI (setI m 21 9 0 (ix ((197 + (12 * x1)) + (7 : Int32))) ((m.1 9 21 0 (ix ((197 + (12 * x1)) + (7 : Int32)))) + (m.1 9 21 0 (ix 8)))) 21 9 0 (ix ((197 + (12 * x1)) + (8 : Int32))) ((setI m 21 9 0 (ix ((197 + (12 * x1)) + (7 : Int32))) ((m.1 9 21 0 (ix ((197 + (12 * x1)) + (7 : Int32)))) + (m.1 9 21 0 (ix 8)))).1 9 21 0 (ix 8))) 21 9 0 (ix ((197 + (12 * x1)) + (0 : Int32))) 1) 21 9 0 (ix ((197 + (12 * x1)) + (6 : Int32))) ((setI (setI (setI m 21 9 0 (ix ((197 + (12 * x1)) + (7 : Int32))) ((m.1 9 21 0 (ix ((197 + (12 * x1)) + (7 : Int32)))) + (m.1 9 21 0 (ix 8)))) 21 9 0 (ix ((197 + (12 * x1)) + (8 : Int32))) ((setI m 21 9 0 (ix ((197 + (12 * x1)) + (7 : Int32))) ((m.1 9 21 0 (ix ((197 + (12 * x1)) + (7 : Int32)))) + (m.1 9 21 0 (ix 8)))).1 9 21 0 (ix 8))) 21 9 0 (ix ((197 + (12 * x1)) + (0 : Int32))) 1).1 9 21 0 (ix 3))) 21 9 0 (ix 3) (((setI (setI (setI (setI m 21 9 0 (ix ((197 + (12 * x1)) + (7 : Int32))) ((m.1 9 21 0 (ix ((197 + (12 * x1)) + (7 : Int32)))) + (m.1 9 21 0 (ix 8)))) 21 9 0 (ix ((197 + (12 * x1)) + (8 : Int32))) ((setI m 21 9 0 (ix ((197 + (12 * x1)) + (7 : Int32))) ((m.1 9 21 0 (ix ((197 + (12 * x1)) + (7 : Int32)))) + (m.1 9 21 0 (ix 8)))).1 9 21 0 (ix 8))) 21 9 0 (ix ((197 + (12 * x1)) + (0 : Int32))) 1) 21 9 0 (ix ((197 + (12 * x1)) + (6 : Int32))) ((setI (setI (setI m 21 9 0 (ix ((197 + (12 * x1)) + (7 : Int32))) ((m.1 9 21 0 (ix ((197 + (12 * x1)) + (7 : Int32)))) + (m.1 9 21 0 (ix 8)))) 21 9 0 (ix ((197 + (12 * x1)) + (8 : Int32))) ((setI m 21 9 0 (ix ((197 + (12 * x1)) + (7 : Int32))) ((m.1 9 21 0 (ix ((197 + (12 * x1)) + (7 : Int32)))) + (m.1 9 21 0 (ix 8)))).1 9 21 0 (ix 8))) 21 9 0 (ix ((197 + (12 * x1)) + (0 : Int32))) 1).1 9 21 0 (ix 3))).1 9 21 0 (ix 3)) + 1)) (cV fun m2 => Wp g (d + 4) MX5_slotBy 0 [some (pO 20 9 0), some (pI x1)] [] m2 (cI fun r3 m4 => ((¬ r3 = (-1) → Q (.inl (some (pI (r3 / 16)))) m4 c n) ∧ (r3 = (-1) → Q (.inl (some (pI (-1)))) m4 c n)))))))))) : Wq g (d + 5) MX5_asks c n 0 [some (pO 20 9 0), some (pI x1)] [] m Q := by
  refine Wq.few (ls' := [some (pO 20 9 0), some (pI x1), none]) ⟨rfl, ⟨rfl, trivial⟩⟩ ?_
  refine Wq.aload_n (t := 20) (r := 9) (j := 0) dX5_asks_0 rfl ?_
  refine Wq.getf (v := pO 21 9 0) dX5_asks_1 fl_X5_7 ⟨rfl, rfl, by decide⟩ rfl ?_
  refine Wq.iload_n (x := x1) dX5_asks_4 rfl ?_
  refine Wq.bipush (v := 7) dX5_asks_5 (by decide) ?_
  refine Wq.callSI (As := [pI x1, pI 7]) dX5_asks_7 fX5_of ml_X5_69 rfl (Nat.le_of_ble_eq_true rfl) (Nat.le_of_ble_eq_true rfl) (suX5_of trivial) (fun x10 m9 e9 => ?_)
  obtain ⟨rfl, rfl⟩ := e9
  refine Wq.dup2 dX5_asks_10 rfl rfl ?_
  refine Wq.iald dX5_asks_11 rfl h.1 ?_
  replace h := h.2
  refine Wq.aload_n (t := 20) (r := 9) (j := 0) dX5_asks_12 rfl ?_
  refine Wq.getf (v := pO 21 9 0) dX5_asks_13 fl_X5_7 ⟨rfl, rfl, by decide⟩ rfl ?_
  refine Wq.bipush (v := 8) dX5_asks_16 (by decide) ?_
  refine Wq.iald dX5_asks_18 rfl (vp_dec rfl) ?_
  refine Wq.iadd dX5_asks_19 ?_
  refine Wq.iast dX5_asks_20 rfl h.1 ?_
  replace h := h.2
  refine Wq.aload_n (t := 20) (r := 9) (j := 0) dX5_asks_21 rfl ?_
  refine Wq.getf (v := pO 21 9 0) dX5_asks_22 fl_X5_7 ⟨rfl, rfl, by decide⟩ rfl ?_
  refine Wq.iload_n (x := x1) dX5_asks_25 rfl ?_
  refine Wq.bipush (v := 8) dX5_asks_26 (by decide) ?_
  refine Wq.callSI (As := [pI x1, pI 8]) dX5_asks_28 fX5_of ml_X5_69 rfl (Nat.le_of_ble_eq_true rfl) (Nat.le_of_ble_eq_true rfl) (suX5_of trivial) (fun x9 m9 e9 => ?_)
  obtain ⟨rfl, rfl⟩ := e9
  refine Wq.aload_n (t := 20) (r := 9) (j := 0) dX5_asks_31 rfl ?_
  refine Wq.getf (v := pO 21 9 0) dX5_asks_32 fl_X5_7 ⟨rfl, rfl, by decide⟩ rfl ?_
  refine Wq.bipush (v := 8) dX5_asks_35 (by decide) ?_
  refine Wq.iald dX5_asks_37 rfl (vp_dec rfl) ?_
  refine Wq.iast dX5_asks_38 rfl h.1 ?_
  replace h := h.2
  refine Wq.aload_n (t := 20) (r := 9) (j := 0) dX5_asks_39 rfl ?_
  refine Wq.iload_n (x := x1) dX5_asks_40 rfl ?_
  refine Wq.callVV (As := [pI x1]) dX5_asks_41 fX5_wait ml_X5_102 rfl (by decide) rfl (Nat.le_of_ble_eq_true rfl) (Nat.le_of_ble_eq_true rfl) ?_ (fun _ h9 => h9)
  refine Wq.few (ls' := [some (pO 20 9 0), some (pI x1)]) ⟨rfl, ⟨rfl, trivial⟩⟩ ?_
  refine Wq.aload_n (t := 20) (r := 9) (j := 0) dX5_wait_0 rfl ?_
  refine Wq.getf (v := pO 21 9 0) dX5_wait_1 fl_X5_7 ⟨rfl, rfl, by decide⟩ rfl ?_
  refine Wq.iload_n (x := x1) dX5_wait_4 rfl ?_
  refine Wq.iconst (v := 0) dX5_wait_5 (by decide) ?_
  refine Wq.callSI (As := [pI x1, pI 0]) dX5_wait_6 fX5_of ml_X5_69 rfl (Nat.le_of_ble_eq_true rfl) (Nat.le_of_ble_eq_true rfl) (suX5_of trivial) (fun x8 m9 e9 => ?_)
  obtain ⟨rfl, rfl⟩ := e9
  refine Wq.iconst (v := 1) dX5_wait_9 (by decide) ?_
  refine Wq.iast dX5_wait_10 rfl h.1 ?_
  replace h := h.2
  refine Wq.aload_n (t := 20) (r := 9) (j := 0) dX5_wait_11 rfl ?_
  refine Wq.getf (v := pO 21 9 0) dX5_wait_12 fl_X5_7 ⟨rfl, rfl, by decide⟩ rfl ?_
  refine Wq.iload_n (x := x1) dX5_wait_15 rfl ?_
  refine Wq.bipush (v := 6) dX5_wait_16 (by decide) ?_
  refine Wq.callSI (As := [pI x1, pI 6]) dX5_wait_18 fX5_of ml_X5_69 rfl (Nat.le_of_ble_eq_true rfl) (Nat.le_of_ble_eq_true rfl) (suX5_of trivial) (fun x7 m9 e9 => ?_)
  obtain ⟨rfl, rfl⟩ := e9
  refine Wq.aload_n (t := 20) (r := 9) (j := 0) dX5_wait_21 rfl ?_
  refine Wq.getf (v := pO 21 9 0) dX5_wait_22 fl_X5_7 ⟨rfl, rfl, by decide⟩ rfl ?_
  refine Wq.iconst (v := 3) dX5_wait_25 (by decide) ?_
  refine Wq.iald dX5_wait_26 rfl (vp_dec rfl) ?_
  refine Wq.iast dX5_wait_27 rfl h.1 ?_
  replace h := h.2
  refine Wq.aload_n (t := 20) (r := 9) (j := 0) dX5_wait_28 rfl ?_
  refine Wq.getf (v := pO 21 9 0) dX5_wait_29 fl_X5_7 ⟨rfl, rfl, by decide⟩ rfl ?_
  refine Wq.iconst (v := 3) dX5_wait_32 (by decide) ?_
  refine Wq.dup2 dX5_wait_33 rfl rfl ?_
  refine Wq.iald dX5_wait_34 rfl (vp_dec rfl) ?_
  refine Wq.iconst (v := 1) dX5_wait_35 (by decide) ?_
  refine Wq.iadd dX5_wait_36 ?_
  refine Wq.iast dX5_wait_37 rfl (vp_dec rfl) ?_
  refine Wq.vretV dX5_wait_38 rfl ?_
  refine Wq.aload_n (t := 20) (r := 9) (j := 0) dX5_asks_44 rfl ?_
  refine Wq.callVV (As := []) dX5_asks_45 fX5_giveOut ml_X5_96 rfl (by decide) rfl (Nat.le_of_ble_eq_true rfl) (Nat.le_of_ble_eq_true rfl) h (fun m2 h => ?_)
  refine Wq.aload_n (t := 20) (r := 9) (j := 0) dX5_asks_48 rfl ?_
  refine Wq.iload_n (x := x1) dX5_asks_49 rfl ?_
  refine Wq.callVI (As := [pI x1]) dX5_asks_50 fX5_slotBy ml_X5_106 rfl (by decide) rfl (Nat.le_of_ble_eq_true rfl) (Nat.le_of_ble_eq_true rfl) h (fun r3 m4 h => ?_)
  refine Wq.istore_n (ls2 := [some (pO 20 9 0), some (pI x1), some (pI r3)]) dX5_asks_53 (by decide) rfl ?_
  refine Wq.iload_n (x := r3) dX5_asks_54 rfl ?_
  refine Wq.iconst (v := (-1)) dX5_asks_55 (by decide) ?_
  refine Wq.icmpne (tgt := 63) dX5_asks_56 (by decide) (fun q5 => ?_) (fun q5 => ?_)
  · replace h := h.1 q5
    refine Wq.iload_n (x := r3) dX5_asks_63 rfl ?_
    refine Wq.callSI (As := [pI r3]) dX5_asks_64 fX5_dayOf ml_X5_56 rfl (Nat.le_of_ble_eq_true rfl) (Nat.le_of_ble_eq_true rfl) (suX5_dayOf trivial) (fun x6 m9 e9 => ?_)
    obtain ⟨rfl, rfl⟩ := e9
    exact Wq.iret dX5_asks_67 (⟨_, rfl, rfl⟩) h
  · replace h := h.2 q5
    refine Wq.iconst (v := (-1)) dX5_asks_59 (by decide) ?_
    refine Wq.goto (tgt := 67) dX5_asks_60 (by decide) ?_
    exact Wq.iret dX5_asks_67 (⟨_, rfl, rfl⟩) h
set_option maxHeartbeats 4000000 in
set_option maxRecDepth 20000 in
theorem sgX5_quits {g : GG} {d : Nat} {c n : Nat} {m : PM} {Q : Ou → PM → Nat → Nat → Prop} {x1 : Int32} (h : Wp g (d + 4) MX5_slotBy 0 [some (pO 20 9 0), some (pI x1)] [] m (cI fun r1 m2 => ((r1 = (-1) → (vp_in ((197 + (12 * x1)) + (8 : Int32)) 341 ∧ ((r1 = (-1) → (vp_in ((197 + (12 * x1)) + (0 : Int32)) 341 ∧ (vp_in ((197 + (12 * x1)) + (7 : Int32)) 341 ∧ (vp_in ((197 + (12 * x1)) + (7 : Int32)) 341 ∧ Wp g (d + 4) MX5_giveOut 0 [some (pO 20 9 0)] [] (setI (setI m2 21 9 0 (ix ((197 + (12 * x1)) + (0 : Int32))) 0) 21 9 0 (ix ((197 + (12 * x1)) + (7 : Int32))) (((setI m2 21 9 0 (ix ((197 + (12 * x1)) + (0 : Int32))) 0).1 9 21 0 (ix ((197 + (12 * x1)) + (7 : Int32)))) - (m2.1 9 21 0 (ix ((197 + (12 * x1)) + (8 : Int32)))))) (cV fun m6 => Q (.inl (some (pI (m2.1 9 21 0 (ix ((197 + (12 * x1)) + (8 : Int32))))))) m6 c n))))) ∧ (¬ r1 = (-1) → (vp_in (((9 + (40 * (irm r1 4))) + (4 * (r1 / 16))) + (irm (r1 / 4) 4)) 341 ∧ (vp_in ((197 + (12 * x1)) + (0 : Int32)) 341 ∧ (vp_in ((197 + (12 * x1)) + (7 : Int32)) 341 ∧ (vp_in ((197 + (12 * x1)) + (7 : Int32)) 341 ∧ Wp g (d + 4) MX5_giveOut 0 [some (pO 20 9 0)] [] (setI (setI (setI m2 21 9 0 (ix (((9 + (40 * (irm r1 4))) + (4 * (r1 / 16))) + (irm (r1 / 4) 4))) (-1)) 21 9 0 (ix ((197 + (12 * x1)) + (0 : Int32))) 0) 21 9 0 (ix ((197 + (12 * x1)) + (7 : Int32))) (((setI (setI m2 21 9 0 (ix (((9 + (40 * (irm r1 4))) + (4 * (r1 / 16))) + (irm (r1 / 4) 4))) (-1)) 21 9 0 (ix ((197 + (12 * x1)) + (0 : Int32))) 0).1 9 21 0 (ix ((197 + (12 * x1)) + (7 : Int32)))) - (m2.1 9 21 0 (ix ((197 + (12 * x1)) + (8 : Int32)))))) (cV fun m10 => Q (.inl (some (pI (m2.1 9 21 0 (ix ((197 + (12 * x1)) + (8 : Int32))))))) m10 c n))))))))) ∧ (¬ r1 = (-1) → (((m2.1 9 21 0 (ix 7)) ≤ (r1 / 16) → (vp_in ((197 + (12 * x1)) + (8 : Int32)) 341 ∧ ((r1 = (-1) → (vp_in ((197 + (12 * x1)) + (0 : Int32)) 341 ∧ (vp_in ((197 + (12 * x1)) + (7 : Int32)) 341 ∧ (vp_in ((197 + (12 * x1)) + (7 : Int32)) 341 ∧ Wp g (d + 4) MX5_giveOut 0 [some (pO 20 9 0)] [] (setI (setI m2 21 9 0 (ix ((197 + (12 * x1)) + (0 : Int32))) 0) 21 9 0 (ix ((197 + (12 * x1)) + (7 : Int32))) (((setI m2 21 9 0 (ix ((197 + (12 * x1)) + (0 : Int32))) 0).1 9 21 0 (ix ((197 + (12 * x1)) + (7 : Int32)))) - (m2.1 9 21 0 (ix ((197 + (12 * x1)) + (8 : Int32)))))) (cV fun m18 => Q (.inl (some (pI (m2.1 9 21 0 (ix ((197 + (12 * x1)) + (8 : Int32))))))) m18 c n))))) ∧ (¬ r1 = (-1) → (vp_in (((9 + (40 * (irm r1 4))) + (4 * (r1 / 16))) + (irm (r1 / 4) 4)) 341 ∧ (vp_in ((197 + (12 * x1)) + (0 : Int32)) 341 ∧ (vp_in ((197 + (12 * x1)) + (7 : Int32)) 341 ∧ (vp_in ((197 + (12 * x1)) + (7 : Int32)) 341 ∧ Wp g (d + 4) MX5_giveOut 0 [some (pO 20 9 0)] [] (setI (setI (setI m2 21 9 0 (ix (((9 + (40 * (irm r1 4))) + (4 * (r1 / 16))) + (irm (r1 / 4) 4))) (-1)) 21 9 0 (ix ((197 + (12 * x1)) + (0 : Int32))) 0) 21 9 0 (ix ((197 + (12 * x1)) + (7 : Int32))) (((setI (setI m2 21 9 0 (ix (((9 + (40 * (irm r1 4))) + (4 * (r1 / 16))) + (irm (r1 / 4) 4))) (-1)) 21 9 0 (ix ((197 + (12 * x1)) + (0 : Int32))) 0).1 9 21 0 (ix ((197 + (12 * x1)) + (7 : Int32)))) - (m2.1 9 21 0 (ix ((197 + (12 * x1)) + (8 : Int32)))))) (cV fun m22 => Q (.inl (some (pI (m2.1 9 21 0 (ix ((197 + (12 * x1)) + (8 : Int32))))))) m22 c n))))))))) ∧ (¬ (m2.1 9 21 0 (ix 7)) ≤ (r1 / 16) → ((r1 = (-1) → (vp_in ((197 + (12 * x1)) + (0 : Int32)) 341 ∧ (vp_in ((197 + (12 * x1)) + (7 : Int32)) 341 ∧ (vp_in ((197 + (12 * x1)) + (7 : Int32)) 341 ∧ Wp g (d + 4) MX5_giveOut 0 [some (pO 20 9 0)] [] (setI (setI m2 21 9 0 (ix ((197 + (12 * x1)) + (0 : Int32))) 0) 21 9 0 (ix ((197 + (12 * x1)) + (7 : Int32))) (((setI m2 21 9 0 (ix ((197 + (12 * x1)) + (0 : Int32))) 0).1 9 21 0 (ix ((197 + (12 * x1)) + (7 : Int32)))) - 0)) (cV fun m29 => Q (.inl (some (pI 0))) m29 c n))))) ∧ (¬ r1 = (-1) → (vp_in (((9 + (40 * (irm r1 4))) + (4 * (r1 / 16))) + (irm (r1 / 4) 4)) 341 ∧ (vp_in ((197 + (12 * x1)) + (0 : Int32)) 341 ∧ (vp_in ((197 + (12 * x1)) + (7 : Int32)) 341 ∧ (vp_in ((197 + (12 * x1)) + (7 : Int32)) 341 ∧ Wp g (d + 4) MX5_giveOut 0 [some (pO 20 9 0)] [] (setI (setI (setI m2 21 9 0 (ix (((9 + (40 * (irm r1 4))) + (4 * (r1 / 16))) + (irm (r1 / 4) 4))) (-1)) 21 9 0 (ix ((197 + (12 * x1)) + (0 : Int32))) 0) 21 9 0 (ix ((197 + (12 * x1)) + (7 : Int32))) (((setI (setI m2 21 9 0 (ix (((9 + (40 * (irm r1 4))) + (4 * (r1 / 16))) + (irm (r1 / 4) 4))) (-1)) 21 9 0 (ix ((197 + (12 * x1)) + (0 : Int32))) 0).1 9 21 0 (ix ((197 + (12 * x1)) + (7 : Int32)))) - 0)) (cV fun m33 => Q (.inl (some (pI 0))) m33 c n))))))))))))) : Wq g (d + 5) MX5_quits c n 0 [some (pO 20 9 0), some (pI x1)] [] m Q := by
  refine Wq.few (ls' := [some (pO 20 9 0), some (pI x1), none, none]) ⟨rfl, ⟨rfl, trivial⟩⟩ ?_
  refine Wq.aload_n (t := 20) (r := 9) (j := 0) dX5_quits_0 rfl ?_
  refine Wq.iload_n (x := x1) dX5_quits_1 rfl ?_
  refine Wq.callVI (As := [pI x1]) dX5_quits_2 fX5_slotBy ml_X5_106 rfl (by decide) rfl (Nat.le_of_ble_eq_true rfl) (Nat.le_of_ble_eq_true rfl) h (fun r1 m2 h => ?_)
  refine Wq.istore_n (ls2 := [some (pO 20 9 0), some (pI x1), some (pI r1), none]) dX5_quits_5 (by decide) rfl ?_
  refine Wq.iload_n (x := r1) dX5_quits_6 rfl ?_
  refine Wq.iconst (v := (-1)) dX5_quits_7 (by decide) ?_
  refine Wq.icmpeq (tgt := 29) dX5_quits_8 (by decide) (fun q3 => ?_) (fun q3 => ?_)
  · replace h := h.1 q3
    refine Wq.aload_n (t := 20) (r := 9) (j := 0) dX5_quits_29 rfl ?_
    refine Wq.getf (v := pO 21 9 0) dX5_quits_30 fl_X5_7 ⟨rfl, rfl, by decide⟩ rfl ?_
    refine Wq.iload_n (x := x1) dX5_quits_33 rfl ?_
    refine Wq.bipush (v := 8) dX5_quits_34 (by decide) ?_
    refine Wq.callSI (As := [pI x1, pI 8]) dX5_quits_36 fX5_of ml_X5_69 rfl (Nat.le_of_ble_eq_true rfl) (Nat.le_of_ble_eq_true rfl) (suX5_of trivial) (fun x14 m9 e9 => ?_)
    obtain ⟨rfl, rfl⟩ := e9
    refine Wq.iald dX5_quits_39 rfl h.1 ?_
    replace h := h.2
    refine Wq.istore_n (ls2 := [some (pO 20 9 0), some (pI x1), some (pI r1), some (pI (m2.1 9 21 0 (ix ((197 + (12 * x1)) + (8 : Int32)))))]) dX5_quits_40 (by decide) rfl ?_
    refine Wq.iload_n (x := r1) dX5_quits_41 rfl ?_
    refine Wq.iconst (v := (-1)) dX5_quits_42 (by decide) ?_
    refine Wq.icmpeq (tgt := 56) dX5_quits_43 (by decide) (fun q4 => ?_) (fun q4 => ?_)
    · replace h := h.1 q4
      refine Wq.aload_n (t := 20) (r := 9) (j := 0) dX5_quits_56 rfl ?_
      refine Wq.getf (v := pO 21 9 0) dX5_quits_57 fl_X5_7 ⟨rfl, rfl, by decide⟩ rfl ?_
      refine Wq.iload_n (x := x1) dX5_quits_60 rfl ?_
      refine Wq.iconst (v := 0) dX5_quits_61 (by decide) ?_
      refine Wq.callSI (As := [pI x1, pI 0]) dX5_quits_62 fX5_of ml_X5_69 rfl (Nat.le_of_ble_eq_true rfl) (Nat.le_of_ble_eq_true rfl) (suX5_of trivial) (fun x8 m9 e9 => ?_)
      obtain ⟨rfl, rfl⟩ := e9
      refine Wq.iconst (v := 0) dX5_quits_65 (by decide) ?_
      refine Wq.iast dX5_quits_66 rfl h.1 ?_
      replace h := h.2
      refine Wq.aload_n (t := 20) (r := 9) (j := 0) dX5_quits_67 rfl ?_
      refine Wq.getf (v := pO 21 9 0) dX5_quits_68 fl_X5_7 ⟨rfl, rfl, by decide⟩ rfl ?_
      refine Wq.iload_n (x := x1) dX5_quits_71 rfl ?_
      refine Wq.bipush (v := 7) dX5_quits_72 (by decide) ?_
      refine Wq.callSI (As := [pI x1, pI 7]) dX5_quits_74 fX5_of ml_X5_69 rfl (Nat.le_of_ble_eq_true rfl) (Nat.le_of_ble_eq_true rfl) (suX5_of trivial) (fun x7 m9 e9 => ?_)
      obtain ⟨rfl, rfl⟩ := e9
      refine Wq.dup2 dX5_quits_77 rfl rfl ?_
      refine Wq.iald dX5_quits_78 rfl h.1 ?_
      replace h := h.2
      refine Wq.iload_n (x := (m2.1 9 21 0 (ix ((197 + (12 * x1)) + (8 : Int32))))) dX5_quits_79 rfl ?_
      refine Wq.isub dX5_quits_80 ?_
      refine Wq.iast dX5_quits_81 rfl h.1 ?_
      replace h := h.2
      refine Wq.aload_n (t := 20) (r := 9) (j := 0) dX5_quits_82 rfl ?_
      refine Wq.callVV (As := []) dX5_quits_83 fX5_giveOut ml_X5_96 rfl (by decide) rfl (Nat.le_of_ble_eq_true rfl) (Nat.le_of_ble_eq_true rfl) h (fun m6 h => ?_)
      refine Wq.iload_n (x := (m2.1 9 21 0 (ix ((197 + (12 * x1)) + (8 : Int32))))) dX5_quits_86 rfl ?_
      exact Wq.iret dX5_quits_87 (⟨_, rfl, rfl⟩) h
    · replace h := h.2 q4
      refine Wq.aload_n (t := 20) (r := 9) (j := 0) dX5_quits_46 rfl ?_
      refine Wq.getf (v := pO 21 9 0) dX5_quits_47 fl_X5_7 ⟨rfl, rfl, by decide⟩ rfl ?_
      refine Wq.iload_n (x := r1) dX5_quits_50 rfl ?_
      refine Wq.callSI (As := [pI r1]) dX5_quits_51 fX5_placeOf ml_X5_66 rfl (Nat.le_of_ble_eq_true rfl) (Nat.le_of_ble_eq_true rfl) (suX5_placeOf trivial) (fun x13 m9 e9 => ?_)
      obtain ⟨rfl, rfl⟩ := e9
      refine Wq.iconst (v := (-1)) dX5_quits_54 (by decide) ?_
      refine Wq.iast dX5_quits_55 rfl h.1 ?_
      replace h := h.2
      refine Wq.aload_n (t := 20) (r := 9) (j := 0) dX5_quits_56 rfl ?_
      refine Wq.getf (v := pO 21 9 0) dX5_quits_57 fl_X5_7 ⟨rfl, rfl, by decide⟩ rfl ?_
      refine Wq.iload_n (x := x1) dX5_quits_60 rfl ?_
      refine Wq.iconst (v := 0) dX5_quits_61 (by decide) ?_
      refine Wq.callSI (As := [pI x1, pI 0]) dX5_quits_62 fX5_of ml_X5_69 rfl (Nat.le_of_ble_eq_true rfl) (Nat.le_of_ble_eq_true rfl) (suX5_of trivial) (fun x12 m9 e9 => ?_)
      obtain ⟨rfl, rfl⟩ := e9
      refine Wq.iconst (v := 0) dX5_quits_65 (by decide) ?_
      refine Wq.iast dX5_quits_66 rfl h.1 ?_
      replace h := h.2
      refine Wq.aload_n (t := 20) (r := 9) (j := 0) dX5_quits_67 rfl ?_
      refine Wq.getf (v := pO 21 9 0) dX5_quits_68 fl_X5_7 ⟨rfl, rfl, by decide⟩ rfl ?_
      refine Wq.iload_n (x := x1) dX5_quits_71 rfl ?_
      refine Wq.bipush (v := 7) dX5_quits_72 (by decide) ?_
      refine Wq.callSI (As := [pI x1, pI 7]) dX5_quits_74 fX5_of ml_X5_69 rfl (Nat.le_of_ble_eq_true rfl) (Nat.le_of_ble_eq_true rfl) (suX5_of trivial) (fun x11 m9 e9 => ?_)
      obtain ⟨rfl, rfl⟩ := e9
      refine Wq.dup2 dX5_quits_77 rfl rfl ?_
      refine Wq.iald dX5_quits_78 rfl h.1 ?_
      replace h := h.2
      refine Wq.iload_n (x := (m2.1 9 21 0 (ix ((197 + (12 * x1)) + (8 : Int32))))) dX5_quits_79 rfl ?_
      refine Wq.isub dX5_quits_80 ?_
      refine Wq.iast dX5_quits_81 rfl h.1 ?_
      replace h := h.2
      refine Wq.aload_n (t := 20) (r := 9) (j := 0) dX5_quits_82 rfl ?_
      refine Wq.callVV (As := []) dX5_quits_83 fX5_giveOut ml_X5_96 rfl (by decide) rfl (Nat.le_of_ble_eq_true rfl) (Nat.le_of_ble_eq_true rfl) h (fun m10 h => ?_)
      refine Wq.iload_n (x := (m2.1 9 21 0 (ix ((197 + (12 * x1)) + (8 : Int32))))) dX5_quits_86 rfl ?_
      exact Wq.iret dX5_quits_87 (⟨_, rfl, rfl⟩) h
  · replace h := h.2 q3
    refine Wq.iload_n (x := r1) dX5_quits_11 rfl ?_
    refine Wq.callSI (As := [pI r1]) dX5_quits_12 fX5_dayOf ml_X5_56 rfl (Nat.le_of_ble_eq_true rfl) (Nat.le_of_ble_eq_true rfl) (suX5_dayOf trivial) (fun x37 m9 e9 => ?_)
    obtain ⟨rfl, rfl⟩ := e9
    refine Wq.aload_n (t := 20) (r := 9) (j := 0) dX5_quits_15 rfl ?_
    refine Wq.getf (v := pO 21 9 0) dX5_quits_16 fl_X5_7 ⟨rfl, rfl, by decide⟩ rfl ?_
    refine Wq.bipush (v := 7) dX5_quits_19 (by decide) ?_
    refine Wq.iald dX5_quits_21 rfl (vp_dec rfl) ?_
    refine Wq.icmpge (tgt := 29) dX5_quits_22 (by decide) (fun q15 => ?_) (fun q15 => ?_)
    · replace h := h.1 q15
      refine Wq.aload_n (t := 20) (r := 9) (j := 0) dX5_quits_29 rfl ?_
      refine Wq.getf (v := pO 21 9 0) dX5_quits_30 fl_X5_7 ⟨rfl, rfl, by decide⟩ rfl ?_
      refine Wq.iload_n (x := x1) dX5_quits_33 rfl ?_
      refine Wq.bipush (v := 8) dX5_quits_34 (by decide) ?_
      refine Wq.callSI (As := [pI x1, pI 8]) dX5_quits_36 fX5_of ml_X5_69 rfl (Nat.le_of_ble_eq_true rfl) (Nat.le_of_ble_eq_true rfl) (suX5_of trivial) (fun x26 m9 e9 => ?_)
      obtain ⟨rfl, rfl⟩ := e9
      refine Wq.iald dX5_quits_39 rfl h.1 ?_
      replace h := h.2
      refine Wq.istore_n (ls2 := [some (pO 20 9 0), some (pI x1), some (pI r1), some (pI (m2.1 9 21 0 (ix ((197 + (12 * x1)) + (8 : Int32)))))]) dX5_quits_40 (by decide) rfl ?_
      refine Wq.iload_n (x := r1) dX5_quits_41 rfl ?_
      refine Wq.iconst (v := (-1)) dX5_quits_42 (by decide) ?_
      refine Wq.icmpeq (tgt := 56) dX5_quits_43 (by decide) (fun q16 => ?_) (fun q16 => ?_)
      · replace h := h.1 q16
        refine Wq.aload_n (t := 20) (r := 9) (j := 0) dX5_quits_56 rfl ?_
        refine Wq.getf (v := pO 21 9 0) dX5_quits_57 fl_X5_7 ⟨rfl, rfl, by decide⟩ rfl ?_
        refine Wq.iload_n (x := x1) dX5_quits_60 rfl ?_
        refine Wq.iconst (v := 0) dX5_quits_61 (by decide) ?_
        refine Wq.callSI (As := [pI x1, pI 0]) dX5_quits_62 fX5_of ml_X5_69 rfl (Nat.le_of_ble_eq_true rfl) (Nat.le_of_ble_eq_true rfl) (suX5_of trivial) (fun x20 m9 e9 => ?_)
        obtain ⟨rfl, rfl⟩ := e9
        refine Wq.iconst (v := 0) dX5_quits_65 (by decide) ?_
        refine Wq.iast dX5_quits_66 rfl h.1 ?_
        replace h := h.2
        refine Wq.aload_n (t := 20) (r := 9) (j := 0) dX5_quits_67 rfl ?_
        refine Wq.getf (v := pO 21 9 0) dX5_quits_68 fl_X5_7 ⟨rfl, rfl, by decide⟩ rfl ?_
        refine Wq.iload_n (x := x1) dX5_quits_71 rfl ?_
        refine Wq.bipush (v := 7) dX5_quits_72 (by decide) ?_
        refine Wq.callSI (As := [pI x1, pI 7]) dX5_quits_74 fX5_of ml_X5_69 rfl (Nat.le_of_ble_eq_true rfl) (Nat.le_of_ble_eq_true rfl) (suX5_of trivial) (fun x19 m9 e9 => ?_)
        obtain ⟨rfl, rfl⟩ := e9
        refine Wq.dup2 dX5_quits_77 rfl rfl ?_
        refine Wq.iald dX5_quits_78 rfl h.1 ?_
        replace h := h.2
        refine Wq.iload_n (x := (m2.1 9 21 0 (ix ((197 + (12 * x1)) + (8 : Int32))))) dX5_quits_79 rfl ?_
        refine Wq.isub dX5_quits_80 ?_
        refine Wq.iast dX5_quits_81 rfl h.1 ?_
        replace h := h.2
        refine Wq.aload_n (t := 20) (r := 9) (j := 0) dX5_quits_82 rfl ?_
        refine Wq.callVV (As := []) dX5_quits_83 fX5_giveOut ml_X5_96 rfl (by decide) rfl (Nat.le_of_ble_eq_true rfl) (Nat.le_of_ble_eq_true rfl) h (fun m18 h => ?_)
        refine Wq.iload_n (x := (m2.1 9 21 0 (ix ((197 + (12 * x1)) + (8 : Int32))))) dX5_quits_86 rfl ?_
        exact Wq.iret dX5_quits_87 (⟨_, rfl, rfl⟩) h
      · replace h := h.2 q16
        refine Wq.aload_n (t := 20) (r := 9) (j := 0) dX5_quits_46 rfl ?_
        refine Wq.getf (v := pO 21 9 0) dX5_quits_47 fl_X5_7 ⟨rfl, rfl, by decide⟩ rfl ?_
        refine Wq.iload_n (x := r1) dX5_quits_50 rfl ?_
        refine Wq.callSI (As := [pI r1]) dX5_quits_51 fX5_placeOf ml_X5_66 rfl (Nat.le_of_ble_eq_true rfl) (Nat.le_of_ble_eq_true rfl) (suX5_placeOf trivial) (fun x25 m9 e9 => ?_)
        obtain ⟨rfl, rfl⟩ := e9
        refine Wq.iconst (v := (-1)) dX5_quits_54 (by decide) ?_
        refine Wq.iast dX5_quits_55 rfl h.1 ?_
        replace h := h.2
        refine Wq.aload_n (t := 20) (r := 9) (j := 0) dX5_quits_56 rfl ?_
        refine Wq.getf (v := pO 21 9 0) dX5_quits_57 fl_X5_7 ⟨rfl, rfl, by decide⟩ rfl ?_
        refine Wq.iload_n (x := x1) dX5_quits_60 rfl ?_
        refine Wq.iconst (v := 0) dX5_quits_61 (by decide) ?_
        refine Wq.callSI (As := [pI x1, pI 0]) dX5_quits_62 fX5_of ml_X5_69 rfl (Nat.le_of_ble_eq_true rfl) (Nat.le_of_ble_eq_true rfl) (suX5_of trivial) (fun x24 m9 e9 => ?_)
        obtain ⟨rfl, rfl⟩ := e9
        refine Wq.iconst (v := 0) dX5_quits_65 (by decide) ?_
        refine Wq.iast dX5_quits_66 rfl h.1 ?_
        replace h := h.2
        refine Wq.aload_n (t := 20) (r := 9) (j := 0) dX5_quits_67 rfl ?_
        refine Wq.getf (v := pO 21 9 0) dX5_quits_68 fl_X5_7 ⟨rfl, rfl, by decide⟩ rfl ?_
        refine Wq.iload_n (x := x1) dX5_quits_71 rfl ?_
        refine Wq.bipush (v := 7) dX5_quits_72 (by decide) ?_
        refine Wq.callSI (As := [pI x1, pI 7]) dX5_quits_74 fX5_of ml_X5_69 rfl (Nat.le_of_ble_eq_true rfl) (Nat.le_of_ble_eq_true rfl) (suX5_of trivial) (fun x23 m9 e9 => ?_)
        obtain ⟨rfl, rfl⟩ := e9
        refine Wq.dup2 dX5_quits_77 rfl rfl ?_
        refine Wq.iald dX5_quits_78 rfl h.1 ?_
        replace h := h.2
        refine Wq.iload_n (x := (m2.1 9 21 0 (ix ((197 + (12 * x1)) + (8 : Int32))))) dX5_quits_79 rfl ?_
        refine Wq.isub dX5_quits_80 ?_
        refine Wq.iast dX5_quits_81 rfl h.1 ?_
        replace h := h.2
        refine Wq.aload_n (t := 20) (r := 9) (j := 0) dX5_quits_82 rfl ?_
        refine Wq.callVV (As := []) dX5_quits_83 fX5_giveOut ml_X5_96 rfl (by decide) rfl (Nat.le_of_ble_eq_true rfl) (Nat.le_of_ble_eq_true rfl) h (fun m22 h => ?_)
        refine Wq.iload_n (x := (m2.1 9 21 0 (ix ((197 + (12 * x1)) + (8 : Int32))))) dX5_quits_86 rfl ?_
        exact Wq.iret dX5_quits_87 (⟨_, rfl, rfl⟩) h
    · replace h := h.2 q15
      refine Wq.iconst (v := 0) dX5_quits_25 (by decide) ?_
      refine Wq.goto (tgt := 40) dX5_quits_26 (by decide) ?_
      refine Wq.istore_n (ls2 := [some (pO 20 9 0), some (pI x1), some (pI r1), some (pI 0)]) dX5_quits_40 (by decide) rfl ?_
      refine Wq.iload_n (x := r1) dX5_quits_41 rfl ?_
      refine Wq.iconst (v := (-1)) dX5_quits_42 (by decide) ?_
      refine Wq.icmpeq (tgt := 56) dX5_quits_43 (by decide) (fun q27 => ?_) (fun q27 => ?_)
      · replace h := h.1 q27
        refine Wq.aload_n (t := 20) (r := 9) (j := 0) dX5_quits_56 rfl ?_
        refine Wq.getf (v := pO 21 9 0) dX5_quits_57 fl_X5_7 ⟨rfl, rfl, by decide⟩ rfl ?_
        refine Wq.iload_n (x := x1) dX5_quits_60 rfl ?_
        refine Wq.iconst (v := 0) dX5_quits_61 (by decide) ?_
        refine Wq.callSI (As := [pI x1, pI 0]) dX5_quits_62 fX5_of ml_X5_69 rfl (Nat.le_of_ble_eq_true rfl) (Nat.le_of_ble_eq_true rfl) (suX5_of trivial) (fun x31 m9 e9 => ?_)
        obtain ⟨rfl, rfl⟩ := e9
        refine Wq.iconst (v := 0) dX5_quits_65 (by decide) ?_
        refine Wq.iast dX5_quits_66 rfl h.1 ?_
        replace h := h.2
        refine Wq.aload_n (t := 20) (r := 9) (j := 0) dX5_quits_67 rfl ?_
        refine Wq.getf (v := pO 21 9 0) dX5_quits_68 fl_X5_7 ⟨rfl, rfl, by decide⟩ rfl ?_
        refine Wq.iload_n (x := x1) dX5_quits_71 rfl ?_
        refine Wq.bipush (v := 7) dX5_quits_72 (by decide) ?_
        refine Wq.callSI (As := [pI x1, pI 7]) dX5_quits_74 fX5_of ml_X5_69 rfl (Nat.le_of_ble_eq_true rfl) (Nat.le_of_ble_eq_true rfl) (suX5_of trivial) (fun x30 m9 e9 => ?_)
        obtain ⟨rfl, rfl⟩ := e9
        refine Wq.dup2 dX5_quits_77 rfl rfl ?_
        refine Wq.iald dX5_quits_78 rfl h.1 ?_
        replace h := h.2
        refine Wq.iload_n (x := 0) dX5_quits_79 rfl ?_
        refine Wq.isub dX5_quits_80 ?_
        refine Wq.iast dX5_quits_81 rfl h.1 ?_
        replace h := h.2
        refine Wq.aload_n (t := 20) (r := 9) (j := 0) dX5_quits_82 rfl ?_
        refine Wq.callVV (As := []) dX5_quits_83 fX5_giveOut ml_X5_96 rfl (by decide) rfl (Nat.le_of_ble_eq_true rfl) (Nat.le_of_ble_eq_true rfl) h (fun m29 h => ?_)
        refine Wq.iload_n (x := 0) dX5_quits_86 rfl ?_
        exact Wq.iret dX5_quits_87 (⟨_, rfl, rfl⟩) h
      · replace h := h.2 q27
        refine Wq.aload_n (t := 20) (r := 9) (j := 0) dX5_quits_46 rfl ?_
        refine Wq.getf (v := pO 21 9 0) dX5_quits_47 fl_X5_7 ⟨rfl, rfl, by decide⟩ rfl ?_
        refine Wq.iload_n (x := r1) dX5_quits_50 rfl ?_
        refine Wq.callSI (As := [pI r1]) dX5_quits_51 fX5_placeOf ml_X5_66 rfl (Nat.le_of_ble_eq_true rfl) (Nat.le_of_ble_eq_true rfl) (suX5_placeOf trivial) (fun x36 m9 e9 => ?_)
        obtain ⟨rfl, rfl⟩ := e9
        refine Wq.iconst (v := (-1)) dX5_quits_54 (by decide) ?_
        refine Wq.iast dX5_quits_55 rfl h.1 ?_
        replace h := h.2
        refine Wq.aload_n (t := 20) (r := 9) (j := 0) dX5_quits_56 rfl ?_
        refine Wq.getf (v := pO 21 9 0) dX5_quits_57 fl_X5_7 ⟨rfl, rfl, by decide⟩ rfl ?_
        refine Wq.iload_n (x := x1) dX5_quits_60 rfl ?_
        refine Wq.iconst (v := 0) dX5_quits_61 (by decide) ?_
        refine Wq.callSI (As := [pI x1, pI 0]) dX5_quits_62 fX5_of ml_X5_69 rfl (Nat.le_of_ble_eq_true rfl) (Nat.le_of_ble_eq_true rfl) (suX5_of trivial) (fun x35 m9 e9 => ?_)
        obtain ⟨rfl, rfl⟩ := e9
        refine Wq.iconst (v := 0) dX5_quits_65 (by decide) ?_
        refine Wq.iast dX5_quits_66 rfl h.1 ?_
        replace h := h.2
        refine Wq.aload_n (t := 20) (r := 9) (j := 0) dX5_quits_67 rfl ?_
        refine Wq.getf (v := pO 21 9 0) dX5_quits_68 fl_X5_7 ⟨rfl, rfl, by decide⟩ rfl ?_
        refine Wq.iload_n (x := x1) dX5_quits_71 rfl ?_
        refine Wq.bipush (v := 7) dX5_quits_72 (by decide) ?_
        refine Wq.callSI (As := [pI x1, pI 7]) dX5_quits_74 fX5_of ml_X5_69 rfl (Nat.le_of_ble_eq_true rfl) (Nat.le_of_ble_eq_true rfl) (suX5_of trivial) (fun x34 m9 e9 => ?_)
        obtain ⟨rfl, rfl⟩ := e9
        refine Wq.dup2 dX5_quits_77 rfl rfl ?_
        refine Wq.iald dX5_quits_78 rfl h.1 ?_
        replace h := h.2
        refine Wq.iload_n (x := 0) dX5_quits_79 rfl ?_
        refine Wq.isub dX5_quits_80 ?_
        refine Wq.iast dX5_quits_81 rfl h.1 ?_
        replace h := h.2
        refine Wq.aload_n (t := 20) (r := 9) (j := 0) dX5_quits_82 rfl ?_
        refine Wq.callVV (As := []) dX5_quits_83 fX5_giveOut ml_X5_96 rfl (by decide) rfl (Nat.le_of_ble_eq_true rfl) (Nat.le_of_ble_eq_true rfl) h (fun m33 h => ?_)
        refine Wq.iload_n (x := 0) dX5_quits_86 rfl ?_
        exact Wq.iret dX5_quits_87 (⟨_, rfl, rfl⟩) h
set_option maxHeartbeats 4000000 in
set_option maxRecDepth 20000 in
theorem sgX5_cancels {g : GG} {d : Nat} {c n : Nat} {m : PM} {Q : Ou → PM → Nat → Nat → Prop} {x1 : Int32} {x2 : Int32} (h : Wq g (d + 5) MX5_cancels c n 5 [some (pO 20 9 0), some (pI x1), some (pI x2), some (pI 0), some (pI 0), none] [] m Q) : Wq g (d + 5) MX5_cancels c n 0 [some (pO 20 9 0), some (pI x1), some (pI x2)] [] m Q := by
  refine Wq.few (ls' := [some (pO 20 9 0), some (pI x1), some (pI x2), none, none, none]) ⟨rfl, ⟨rfl, ⟨rfl, trivial⟩⟩⟩ ?_
  refine Wq.iconst (v := 0) dX5_cancels_0 (by decide) ?_
  refine Wq.istore_n (ls2 := [some (pO 20 9 0), some (pI x1), some (pI x2), some (pI 0), none, none]) dX5_cancels_1 (by decide) rfl ?_
  refine Wq.iconst (v := 0) dX5_cancels_2 (by decide) ?_
  refine Wq.istore (ls2 := [some (pO 20 9 0), some (pI x1), some (pI x2), some (pI 0), some (pI 0), none]) dX5_cancels_3 (by decide) rfl ?_
  exact h
set_option maxHeartbeats 4000000 in
set_option maxRecDepth 20000 in
theorem sgX5_cancels_5 {g : GG} {d : Nat} {c n : Nat} {m : PM} {Q : Ou → PM → Nat → Nat → Prop} {x1 : Int32} {x2 : Int32} {x3 : Int32} {x4 : Int32} (h : ((2 ≤ x4 → (vp_in ((169 + (7 * x1)) + (2 : Int32)) 341 ∧ (vp_in ((169 + (7 * x1)) + (2 : Int32)) 341 ∧ Wp g (d + 4) MX5_giveOut 0 [some (pO 20 9 0)] [] (setI m 21 9 0 (ix ((169 + (7 * x1)) + (2 : Int32))) ((m.1 9 21 0 (ix ((169 + (7 * x1)) + (2 : Int32)))) + 1)) (cV fun m3 => Q (.inl (some (pI x3))) m3 c n)))) ∧ (¬ 2 ≤ x4 → (vp_in (((9 + (40 * x1)) + (4 * x2)) + x4) 341 ∧ (vp_in (((9 + (40 * x1)) + (4 * x2)) + x4) 341 ∧ (((m.1 9 21 0 (ix (((9 + (40 * x1)) + (4 * x2)) + x4))) < 0 → Wq g (d + 5) MX5_cancels c n 5 [some (pO 20 9 0), some (pI x1), some (pI x2), some (pI x3), some (pI (x4 + 1)), none] [] (setI m 21 9 0 (ix (((9 + (40 * x1)) + (4 * x2)) + x4)) (-2)) Q) ∧ (¬ (m.1 9 21 0 (ix (((9 + (40 * x1)) + (4 * x2)) + x4))) < 0 → (vp_in ((197 + (12 * (m.1 9 21 0 (ix (((9 + (40 * x1)) + (4 * x2)) + x4))))) + (5 : Int32)) 341 ∧ (vp_in ((197 + (12 * (m.1 9 21 0 (ix (((9 + (40 * x1)) + (4 * x2)) + x4))))) + (5 : Int32)) 341 ∧ (vp_in ((197 + (12 * (m.1 9 21 0 (ix (((9 + (40 * x1)) + (4 * x2)) + x4))))) + (0 : Int32)) 341 ∧ (vp_in ((197 + (12 * (m.1 9 21 0 (ix (((9 + (40 * x1)) + (4 * x2)) + x4))))) + (6 : Int32)) 341 ∧ Wq g (d + 5) MX5_cancels c n 5 [some (pO 20 9 0), some (pI x1), some (pI x2), some (pI (x3 + 1)), some (pI (x4 + 1)), none] [] (setI (setI (setI (setI (setI m 21 9 0 (ix (((9 + (40 * x1)) + (4 * x2)) + x4)) (-2)) 21 9 0 (ix ((197 + (12 * (m.1 9 21 0 (ix (((9 + (40 * x1)) + (4 * x2)) + x4))))) + (5 : Int32))) (((setI m 21 9 0 (ix (((9 + (40 * x1)) + (4 * x2)) + x4)) (-2)).1 9 21 0 (ix ((197 + (12 * (m.1 9 21 0 (ix (((9 + (40 * x1)) + (4 * x2)) + x4))))) + (5 : Int32)))) + 1)) 21 9 0 (ix ((197 + (12 * (m.1 9 21 0 (ix (((9 + (40 * x1)) + (4 * x2)) + x4))))) + (0 : Int32))) 1) 21 9 0 (ix ((197 + (12 * (m.1 9 21 0 (ix (((9 + (40 * x1)) + (4 * x2)) + x4))))) + (6 : Int32))) ((setI (setI (setI m 21 9 0 (ix (((9 + (40 * x1)) + (4 * x2)) + x4)) (-2)) 21 9 0 (ix ((197 + (12 * (m.1 9 21 0 (ix (((9 + (40 * x1)) + (4 * x2)) + x4))))) + (5 : Int32))) (((setI m 21 9 0 (ix (((9 + (40 * x1)) + (4 * x2)) + x4)) (-2)).1 9 21 0 (ix ((197 + (12 * (m.1 9 21 0 (ix (((9 + (40 * x1)) + (4 * x2)) + x4))))) + (5 : Int32)))) + 1)) 21 9 0 (ix ((197 + (12 * (m.1 9 21 0 (ix (((9 + (40 * x1)) + (4 * x2)) + x4))))) + (0 : Int32))) 1).1 9 21 0 (ix 3))) 21 9 0 (ix 3) (((setI (setI (setI (setI m 21 9 0 (ix (((9 + (40 * x1)) + (4 * x2)) + x4)) (-2)) 21 9 0 (ix ((197 + (12 * (m.1 9 21 0 (ix (((9 + (40 * x1)) + (4 * x2)) + x4))))) + (5 : Int32))) (((setI m 21 9 0 (ix (((9 + (40 * x1)) + (4 * x2)) + x4)) (-2)).1 9 21 0 (ix ((197 + (12 * (m.1 9 21 0 (ix (((9 + (40 * x1)) + (4 * x2)) + x4))))) + (5 : Int32)))) + 1)) 21 9 0 (ix ((197 + (12 * (m.1 9 21 0 (ix (((9 + (40 * x1)) + (4 * x2)) + x4))))) + (0 : Int32))) 1) 21 9 0 (ix ((197 + (12 * (m.1 9 21 0 (ix (((9 + (40 * x1)) + (4 * x2)) + x4))))) + (6 : Int32))) ((setI (setI (setI m 21 9 0 (ix (((9 + (40 * x1)) + (4 * x2)) + x4)) (-2)) 21 9 0 (ix ((197 + (12 * (m.1 9 21 0 (ix (((9 + (40 * x1)) + (4 * x2)) + x4))))) + (5 : Int32))) (((setI m 21 9 0 (ix (((9 + (40 * x1)) + (4 * x2)) + x4)) (-2)).1 9 21 0 (ix ((197 + (12 * (m.1 9 21 0 (ix (((9 + (40 * x1)) + (4 * x2)) + x4))))) + (5 : Int32)))) + 1)) 21 9 0 (ix ((197 + (12 * (m.1 9 21 0 (ix (((9 + (40 * x1)) + (4 * x2)) + x4))))) + (0 : Int32))) 1).1 9 21 0 (ix 3))).1 9 21 0 (ix 3)) + 1)) Q))))))))))) : Wq g (d + 5) MX5_cancels c n 5 [some (pO 20 9 0), some (pI x1), some (pI x2), some (pI x3), some (pI x4), none] [] m Q := by
  refine Wq.iload (x := x4) dX5_cancels_5 rfl ?_
  refine Wq.iconst (v := 2) dX5_cancels_7 (by decide) ?_
  refine Wq.icmpge (tgt := 74) dX5_cancels_8 (by decide) (fun q1 => ?_) (fun q1 => ?_)
  · replace h := h.1 q1
    refine Wq.aload_n (t := 20) (r := 9) (j := 0) dX5_cancels_74 rfl ?_
    refine Wq.getf (v := pO 21 9 0) dX5_cancels_75 fl_X5_7 ⟨rfl, rfl, by decide⟩ rfl ?_
    refine Wq.iload_n (x := x1) dX5_cancels_78 rfl ?_
    refine Wq.iconst (v := 2) dX5_cancels_79 (by decide) ?_
    refine Wq.callSI (As := [pI x1, pI 2]) dX5_cancels_80 fX5_ofExaminer ml_X5_93 rfl (Nat.le_of_ble_eq_true rfl) (Nat.le_of_ble_eq_true rfl) (suX5_ofExaminer trivial) (fun x4 m9 e9 => ?_)
    obtain ⟨rfl, rfl⟩ := e9
    refine Wq.dup2 dX5_cancels_83 rfl rfl ?_
    refine Wq.iald dX5_cancels_84 rfl h.1 ?_
    replace h := h.2
    refine Wq.iconst (v := 1) dX5_cancels_85 (by decide) ?_
    refine Wq.iadd dX5_cancels_86 ?_
    refine Wq.iast dX5_cancels_87 rfl h.1 ?_
    replace h := h.2
    refine Wq.aload_n (t := 20) (r := 9) (j := 0) dX5_cancels_88 rfl ?_
    refine Wq.callVV (As := []) dX5_cancels_89 fX5_giveOut ml_X5_96 rfl (by decide) rfl (Nat.le_of_ble_eq_true rfl) (Nat.le_of_ble_eq_true rfl) h (fun m3 h => ?_)
    refine Wq.iload_n (x := x3) dX5_cancels_92 rfl ?_
    exact Wq.iret dX5_cancels_93 (⟨_, rfl, rfl⟩) h
  · replace h := h.2 q1
    refine Wq.aload_n (t := 20) (r := 9) (j := 0) dX5_cancels_11 rfl ?_
    refine Wq.getf (v := pO 21 9 0) dX5_cancels_12 fl_X5_7 ⟨rfl, rfl, by decide⟩ rfl ?_
    refine Wq.iload_n (x := x1) dX5_cancels_15 rfl ?_
    refine Wq.iload_n (x := x2) dX5_cancels_16 rfl ?_
    refine Wq.iload (x := x4) dX5_cancels_17 rfl ?_
    refine Wq.callSI (As := [pI x1, pI x2, pI x4]) dX5_cancels_19 fX5_at ml_X5_62 rfl (Nat.le_of_ble_eq_true rfl) (Nat.le_of_ble_eq_true rfl) (suX5_at trivial) (fun x10 m9 e9 => ?_)
    obtain ⟨rfl, rfl⟩ := e9
    refine Wq.iald dX5_cancels_22 rfl h.1 ?_
    replace h := h.2
    refine Wq.istore (ls2 := [some (pO 20 9 0), some (pI x1), some (pI x2), some (pI x3), some (pI x4), some (pI (m.1 9 21 0 (ix (((9 + (40 * x1)) + (4 * x2)) + x4))))]) dX5_cancels_23 (by decide) rfl ?_
    refine Wq.aload_n (t := 20) (r := 9) (j := 0) dX5_cancels_25 rfl ?_
    refine Wq.getf (v := pO 21 9 0) dX5_cancels_26 fl_X5_7 ⟨rfl, rfl, by decide⟩ rfl ?_
    refine Wq.iload_n (x := x1) dX5_cancels_29 rfl ?_
    refine Wq.iload_n (x := x2) dX5_cancels_30 rfl ?_
    refine Wq.iload (x := x4) dX5_cancels_31 rfl ?_
    refine Wq.callSI (As := [pI x1, pI x2, pI x4]) dX5_cancels_33 fX5_at ml_X5_62 rfl (Nat.le_of_ble_eq_true rfl) (Nat.le_of_ble_eq_true rfl) (suX5_at trivial) (fun x9 m9 e9 => ?_)
    obtain ⟨rfl, rfl⟩ := e9
    refine Wq.bipush (v := (-2)) dX5_cancels_36 (by decide) ?_
    refine Wq.iast dX5_cancels_38 rfl h.1 ?_
    replace h := h.2
    refine Wq.iload (x := (m.1 9 21 0 (ix (((9 + (40 * x1)) + (4 * x2)) + x4)))) dX5_cancels_39 rfl ?_
    refine Wq.iflt (tgt := 68) dX5_cancels_41 (by decide) (fun q5 => ?_) (fun q5 => ?_)
    · replace h := h.1 q5
      refine Wq.iinc (x := x4) (ls2 := [some (pO 20 9 0), some (pI x1), some (pI x2), some (pI x3), some (pI (x4 + 1)), some (pI (m.1 9 21 0 (ix (((9 + (40 * x1)) + (4 * x2)) + x4))))]) dX5_cancels_68 rfl (by decide) rfl ?_
      refine Wq.goto (tgt := 5) dX5_cancels_71 (by decide) ?_
      refine Wq.few (ls' := [some (pO 20 9 0), some (pI x1), some (pI x2), some (pI x3), some (pI (x4 + 1)), none]) ⟨rfl, ⟨rfl, ⟨rfl, ⟨rfl, ⟨rfl, trivial⟩⟩⟩⟩⟩ ?_
      exact h
    · replace h := h.2 q5
      refine Wq.aload_n (t := 20) (r := 9) (j := 0) dX5_cancels_44 rfl ?_
      refine Wq.getf (v := pO 21 9 0) dX5_cancels_45 fl_X5_7 ⟨rfl, rfl, by decide⟩ rfl ?_
      refine Wq.iload (x := (m.1 9 21 0 (ix (((9 + (40 * x1)) + (4 * x2)) + x4)))) dX5_cancels_48 rfl ?_
      refine Wq.iconst (v := 5) dX5_cancels_50 (by decide) ?_
      refine Wq.callSI (As := [pI (m.1 9 21 0 (ix (((9 + (40 * x1)) + (4 * x2)) + x4))), pI 5]) dX5_cancels_51 fX5_of ml_X5_69 rfl (Nat.le_of_ble_eq_true rfl) (Nat.le_of_ble_eq_true rfl) (suX5_of trivial) (fun x8 m9 e9 => ?_)
      obtain ⟨rfl, rfl⟩ := e9
      refine Wq.dup2 dX5_cancels_54 rfl rfl ?_
      refine Wq.iald dX5_cancels_55 rfl h.1 ?_
      replace h := h.2
      refine Wq.iconst (v := 1) dX5_cancels_56 (by decide) ?_
      refine Wq.iadd dX5_cancels_57 ?_
      refine Wq.iast dX5_cancels_58 rfl h.1 ?_
      replace h := h.2
      refine Wq.aload_n (t := 20) (r := 9) (j := 0) dX5_cancels_59 rfl ?_
      refine Wq.iload (x := (m.1 9 21 0 (ix (((9 + (40 * x1)) + (4 * x2)) + x4)))) dX5_cancels_60 rfl ?_
      refine Wq.callVV (As := [pI (m.1 9 21 0 (ix (((9 + (40 * x1)) + (4 * x2)) + x4)))]) dX5_cancels_62 fX5_wait ml_X5_102 rfl (by decide) rfl (Nat.le_of_ble_eq_true rfl) (Nat.le_of_ble_eq_true rfl) ?_ (fun _ h9 => h9)
      refine Wq.few (ls' := [some (pO 20 9 0), some (pI (m.1 9 21 0 (ix (((9 + (40 * x1)) + (4 * x2)) + x4))))]) ⟨rfl, ⟨rfl, trivial⟩⟩ ?_
      refine Wq.aload_n (t := 20) (r := 9) (j := 0) dX5_wait_0 rfl ?_
      refine Wq.getf (v := pO 21 9 0) dX5_wait_1 fl_X5_7 ⟨rfl, rfl, by decide⟩ rfl ?_
      refine Wq.iload_n (x := (m.1 9 21 0 (ix (((9 + (40 * x1)) + (4 * x2)) + x4)))) dX5_wait_4 rfl ?_
      refine Wq.iconst (v := 0) dX5_wait_5 (by decide) ?_
      refine Wq.callSI (As := [pI (m.1 9 21 0 (ix (((9 + (40 * x1)) + (4 * x2)) + x4))), pI 0]) dX5_wait_6 fX5_of ml_X5_69 rfl (Nat.le_of_ble_eq_true rfl) (Nat.le_of_ble_eq_true rfl) (suX5_of trivial) (fun x7 m9 e9 => ?_)
      obtain ⟨rfl, rfl⟩ := e9
      refine Wq.iconst (v := 1) dX5_wait_9 (by decide) ?_
      refine Wq.iast dX5_wait_10 rfl h.1 ?_
      replace h := h.2
      refine Wq.aload_n (t := 20) (r := 9) (j := 0) dX5_wait_11 rfl ?_
      refine Wq.getf (v := pO 21 9 0) dX5_wait_12 fl_X5_7 ⟨rfl, rfl, by decide⟩ rfl ?_
      refine Wq.iload_n (x := (m.1 9 21 0 (ix (((9 + (40 * x1)) + (4 * x2)) + x4)))) dX5_wait_15 rfl ?_
      refine Wq.bipush (v := 6) dX5_wait_16 (by decide) ?_
      refine Wq.callSI (As := [pI (m.1 9 21 0 (ix (((9 + (40 * x1)) + (4 * x2)) + x4))), pI 6]) dX5_wait_18 fX5_of ml_X5_69 rfl (Nat.le_of_ble_eq_true rfl) (Nat.le_of_ble_eq_true rfl) (suX5_of trivial) (fun x6 m9 e9 => ?_)
      obtain ⟨rfl, rfl⟩ := e9
      refine Wq.aload_n (t := 20) (r := 9) (j := 0) dX5_wait_21 rfl ?_
      refine Wq.getf (v := pO 21 9 0) dX5_wait_22 fl_X5_7 ⟨rfl, rfl, by decide⟩ rfl ?_
      refine Wq.iconst (v := 3) dX5_wait_25 (by decide) ?_
      refine Wq.iald dX5_wait_26 rfl (vp_dec rfl) ?_
      refine Wq.iast dX5_wait_27 rfl h.1 ?_
      replace h := h.2
      refine Wq.aload_n (t := 20) (r := 9) (j := 0) dX5_wait_28 rfl ?_
      refine Wq.getf (v := pO 21 9 0) dX5_wait_29 fl_X5_7 ⟨rfl, rfl, by decide⟩ rfl ?_
      refine Wq.iconst (v := 3) dX5_wait_32 (by decide) ?_
      refine Wq.dup2 dX5_wait_33 rfl rfl ?_
      refine Wq.iald dX5_wait_34 rfl (vp_dec rfl) ?_
      refine Wq.iconst (v := 1) dX5_wait_35 (by decide) ?_
      refine Wq.iadd dX5_wait_36 ?_
      refine Wq.iast dX5_wait_37 rfl (vp_dec rfl) ?_
      refine Wq.vretV dX5_wait_38 rfl ?_
      refine Wq.iinc (x := x3) (ls2 := [some (pO 20 9 0), some (pI x1), some (pI x2), some (pI (x3 + 1)), some (pI x4), some (pI (m.1 9 21 0 (ix (((9 + (40 * x1)) + (4 * x2)) + x4))))]) dX5_cancels_65 rfl (by decide) rfl ?_
      refine Wq.iinc (x := x4) (ls2 := [some (pO 20 9 0), some (pI x1), some (pI x2), some (pI (x3 + 1)), some (pI (x4 + 1)), some (pI (m.1 9 21 0 (ix (((9 + (40 * x1)) + (4 * x2)) + x4))))]) dX5_cancels_68 rfl (by decide) rfl ?_
      refine Wq.goto (tgt := 5) dX5_cancels_71 (by decide) ?_
      refine Wq.few (ls' := [some (pO 20 9 0), some (pI x1), some (pI x2), some (pI (x3 + 1)), some (pI (x4 + 1)), none]) ⟨rfl, ⟨rfl, ⟨rfl, ⟨rfl, ⟨rfl, trivial⟩⟩⟩⟩⟩ ?_
      exact h
set_option maxHeartbeats 4000000 in
set_option maxRecDepth 20000 in
theorem sgX5_goesOn {g : GG} {d : Nat} {c n : Nat} {m : PM} {Q : Ou → PM → Nat → Nat → Prop}  (h : Wq g (d + 5) MX5_goesOn c n 4 [some (pO 20 9 0), some (pI 0), some (pI 0), none, none] [] m Q) : Wq g (d + 5) MX5_goesOn c n 0 [some (pO 20 9 0)] [] m Q := by
  refine Wq.few (ls' := [some (pO 20 9 0), none, none, none, none]) ⟨rfl, trivial⟩ ?_
  refine Wq.iconst (v := 0) dX5_goesOn_0 (by decide) ?_
  refine Wq.istore_n (ls2 := [some (pO 20 9 0), some (pI 0), none, none, none]) dX5_goesOn_1 (by decide) rfl ?_
  refine Wq.iconst (v := 0) dX5_goesOn_2 (by decide) ?_
  refine Wq.istore_n (ls2 := [some (pO 20 9 0), some (pI 0), some (pI 0), none, none]) dX5_goesOn_3 (by decide) rfl ?_
  exact h
set_option maxHeartbeats 4000000 in
set_option maxRecDepth 20000 in
theorem sgX5_goesOn_4 {g : GG} {d : Nat} {c n : Nat} {m : PM} {Q : Ou → PM → Nat → Nat → Prop} {x1 : Int32} {x2 : Int32} (h : (((m.1 9 21 0 (ix 1)) ≤ x2 → Wp g (d + 4) MX5_giveOut 0 [some (pO 20 9 0)] [] (setI (setI m 21 9 0 (ix 4) ((m.1 9 21 0 (ix 4)) + x1)) 21 9 0 (ix 0) (((setI m 21 9 0 (ix 4) ((m.1 9 21 0 (ix 4)) + x1)).1 9 21 0 (ix 0)) + 1)) (cV fun m3 => Q (.inl (some (pI x1))) m3 c n)) ∧ (¬ (m.1 9 21 0 (ix 1)) ≤ x2 → Wq g (d + 5) MX5_goesOn c n 16 [some (pO 20 9 0), some (pI x1), some (pI x2), some (pI 0), none] [] m Q))) : Wq g (d + 5) MX5_goesOn c n 4 [some (pO 20 9 0), some (pI x1), some (pI x2), none, none] [] m Q := by
  refine Wq.iload_n (x := x2) dX5_goesOn_4 rfl ?_
  refine Wq.aload_n (t := 20) (r := 9) (j := 0) dX5_goesOn_5 rfl ?_
  refine Wq.getf (v := pO 21 9 0) dX5_goesOn_6 fl_X5_7 ⟨rfl, rfl, by decide⟩ rfl ?_
  refine Wq.iconst (v := 1) dX5_goesOn_9 (by decide) ?_
  refine Wq.iald dX5_goesOn_10 rfl (vp_dec rfl) ?_
  refine Wq.icmpge (tgt := 120) dX5_goesOn_11 (by decide) (fun q1 => ?_) (fun q1 => ?_)
  · replace h := h.1 q1
    refine Wq.aload_n (t := 20) (r := 9) (j := 0) dX5_goesOn_120 rfl ?_
    refine Wq.getf (v := pO 21 9 0) dX5_goesOn_121 fl_X5_7 ⟨rfl, rfl, by decide⟩ rfl ?_
    refine Wq.iconst (v := 4) dX5_goesOn_124 (by decide) ?_
    refine Wq.dup2 dX5_goesOn_125 rfl rfl ?_
    refine Wq.iald dX5_goesOn_126 rfl (vp_dec rfl) ?_
    refine Wq.iload_n (x := x1) dX5_goesOn_127 rfl ?_
    refine Wq.iadd dX5_goesOn_128 ?_
    refine Wq.iast dX5_goesOn_129 rfl (vp_dec rfl) ?_
    refine Wq.aload_n (t := 20) (r := 9) (j := 0) dX5_goesOn_130 rfl ?_
    refine Wq.getf (v := pO 21 9 0) dX5_goesOn_131 fl_X5_7 ⟨rfl, rfl, by decide⟩ rfl ?_
    refine Wq.iconst (v := 0) dX5_goesOn_134 (by decide) ?_
    refine Wq.dup2 dX5_goesOn_135 rfl rfl ?_
    refine Wq.iald dX5_goesOn_136 rfl (vp_dec rfl) ?_
    refine Wq.iconst (v := 1) dX5_goesOn_137 (by decide) ?_
    refine Wq.iadd dX5_goesOn_138 ?_
    refine Wq.iast dX5_goesOn_139 rfl (vp_dec rfl) ?_
    refine Wq.aload_n (t := 20) (r := 9) (j := 0) dX5_goesOn_140 rfl ?_
    refine Wq.callVV (As := []) dX5_goesOn_141 fX5_giveOut ml_X5_96 rfl (by decide) rfl (Nat.le_of_ble_eq_true rfl) (Nat.le_of_ble_eq_true rfl) h (fun m3 h => ?_)
    refine Wq.iload_n (x := x1) dX5_goesOn_144 rfl ?_
    exact Wq.iret dX5_goesOn_145 (⟨_, rfl, rfl⟩) h
  · replace h := h.2 q1
    refine Wq.iconst (v := 0) dX5_goesOn_14 (by decide) ?_
    refine Wq.istore_n (ls2 := [some (pO 20 9 0), some (pI x1), some (pI x2), some (pI 0), none]) dX5_goesOn_15 (by decide) rfl ?_
    exact h
set_option maxHeartbeats 4000000 in
set_option maxRecDepth 20000 in
theorem sgX5_goesOn_16 {g : GG} {d : Nat} {c n : Nat} {m : PM} {Q : Ou → PM → Nat → Nat → Prop} {x1 : Int32} {x2 : Int32} {x3 : Int32} (h : ((4 ≤ x3 → Wq g (d + 5) MX5_goesOn c n 62 [some (pO 20 9 0), some (pI x1), some (pI x2), some (pI 0), none] [] m Q) ∧ (¬ 4 ≤ x3 → (vp_in (((9 + (40 * x2)) + (4 * (0 : Int32))) + x3) 341 ∧ (((m.1 9 21 0 (ix (((9 + (40 * x2)) + (4 * (0 : Int32))) + x3))) < 0 → Wq g (d + 5) MX5_goesOn c n 16 [some (pO 20 9 0), some (pI x1), some (pI x2), some (pI (x3 + 1)), none] [] m Q) ∧ (¬ (m.1 9 21 0 (ix (((9 + (40 * x2)) + (4 * (0 : Int32))) + x3))) < 0 → (vp_in ((197 + (12 * (m.1 9 21 0 (ix (((9 + (40 * x2)) + (4 * (0 : Int32))) + x3))))) + (0 : Int32)) 341 ∧ Wq g (d + 5) MX5_goesOn c n 16 [some (pO 20 9 0), some (pI (x1 + 1)), some (pI x2), some (pI (x3 + 1)), none] [] (setI m 21 9 0 (ix ((197 + (12 * (m.1 9 21 0 (ix (((9 + (40 * x2)) + (4 * (0 : Int32))) + x3))))) + (0 : Int32))) 0) Q))))))) : Wq g (d + 5) MX5_goesOn c n 16 [some (pO 20 9 0), some (pI x1), some (pI x2), some (pI x3), none] [] m Q := by
  refine Wq.iload_n (x := x3) dX5_goesOn_16 rfl ?_
  refine Wq.iconst (v := 4) dX5_goesOn_17 (by decide) ?_
  refine Wq.icmpge (tgt := 60) dX5_goesOn_18 (by decide) (fun q1 => ?_) (fun q1 => ?_)
  · replace h := h.1 q1
    refine Wq.iconst (v := 0) dX5_goesOn_60 (by decide) ?_
    refine Wq.istore_n (ls2 := [some (pO 20 9 0), some (pI x1), some (pI x2), some (pI 0), none]) dX5_goesOn_61 (by decide) rfl ?_
    exact h
  · replace h := h.2 q1
    refine Wq.aload_n (t := 20) (r := 9) (j := 0) dX5_goesOn_21 rfl ?_
    refine Wq.getf (v := pO 21 9 0) dX5_goesOn_22 fl_X5_7 ⟨rfl, rfl, by decide⟩ rfl ?_
    refine Wq.iload_n (x := x2) dX5_goesOn_25 rfl ?_
    refine Wq.iconst (v := 0) dX5_goesOn_26 (by decide) ?_
    refine Wq.iload_n (x := x3) dX5_goesOn_27 rfl ?_
    refine Wq.callSI (As := [pI x2, pI 0, pI x3]) dX5_goesOn_28 fX5_at ml_X5_62 rfl (Nat.le_of_ble_eq_true rfl) (Nat.le_of_ble_eq_true rfl) (suX5_at trivial) (fun x4 m9 e9 => ?_)
    obtain ⟨rfl, rfl⟩ := e9
    refine Wq.iald dX5_goesOn_31 rfl h.1 ?_
    replace h := h.2
    refine Wq.istore (ls2 := [some (pO 20 9 0), some (pI x1), some (pI x2), some (pI x3), some (pI (m.1 9 21 0 (ix (((9 + (40 * x2)) + (4 * (0 : Int32))) + x3))))]) dX5_goesOn_32 (by decide) rfl ?_
    refine Wq.iload (x := (m.1 9 21 0 (ix (((9 + (40 * x2)) + (4 * (0 : Int32))) + x3)))) dX5_goesOn_34 rfl ?_
    refine Wq.iflt (tgt := 54) dX5_goesOn_36 (by decide) (fun q2 => ?_) (fun q2 => ?_)
    · replace h := h.1 q2
      refine Wq.iinc (x := x3) (ls2 := [some (pO 20 9 0), some (pI x1), some (pI x2), some (pI (x3 + 1)), some (pI (m.1 9 21 0 (ix (((9 + (40 * x2)) + (4 * (0 : Int32))) + x3))))]) dX5_goesOn_54 rfl (by decide) rfl ?_
      refine Wq.goto (tgt := 16) dX5_goesOn_57 (by decide) ?_
      refine Wq.few (ls' := [some (pO 20 9 0), some (pI x1), some (pI x2), some (pI (x3 + 1)), none]) ⟨rfl, ⟨rfl, ⟨rfl, ⟨rfl, trivial⟩⟩⟩⟩ ?_
      exact h
    · replace h := h.2 q2
      refine Wq.aload_n (t := 20) (r := 9) (j := 0) dX5_goesOn_39 rfl ?_
      refine Wq.getf (v := pO 21 9 0) dX5_goesOn_40 fl_X5_7 ⟨rfl, rfl, by decide⟩ rfl ?_
      refine Wq.iload (x := (m.1 9 21 0 (ix (((9 + (40 * x2)) + (4 * (0 : Int32))) + x3)))) dX5_goesOn_43 rfl ?_
      refine Wq.iconst (v := 0) dX5_goesOn_45 (by decide) ?_
      refine Wq.callSI (As := [pI (m.1 9 21 0 (ix (((9 + (40 * x2)) + (4 * (0 : Int32))) + x3))), pI 0]) dX5_goesOn_46 fX5_of ml_X5_69 rfl (Nat.le_of_ble_eq_true rfl) (Nat.le_of_ble_eq_true rfl) (suX5_of trivial) (fun x3 m9 e9 => ?_)
      obtain ⟨rfl, rfl⟩ := e9
      refine Wq.iconst (v := 0) dX5_goesOn_49 (by decide) ?_
      refine Wq.iast dX5_goesOn_50 rfl h.1 ?_
      replace h := h.2
      refine Wq.iinc (x := x1) (ls2 := [some (pO 20 9 0), some (pI (x1 + 1)), some (pI x2), some (pI x3), some (pI (m.1 9 21 0 (ix (((9 + (40 * x2)) + (4 * (0 : Int32))) + x3))))]) dX5_goesOn_51 rfl (by decide) rfl ?_
      refine Wq.iinc (x := x3) (ls2 := [some (pO 20 9 0), some (pI (x1 + 1)), some (pI x2), some (pI (x3 + 1)), some (pI (m.1 9 21 0 (ix (((9 + (40 * x2)) + (4 * (0 : Int32))) + x3))))]) dX5_goesOn_54 rfl (by decide) rfl ?_
      refine Wq.goto (tgt := 16) dX5_goesOn_57 (by decide) ?_
      refine Wq.few (ls' := [some (pO 20 9 0), some (pI (x1 + 1)), some (pI x2), some (pI (x3 + 1)), none]) ⟨rfl, ⟨rfl, ⟨rfl, ⟨rfl, trivial⟩⟩⟩⟩ ?_
      exact h
set_option maxHeartbeats 4000000 in
set_option maxRecDepth 20000 in
theorem sgX5_goesOn_62 {g : GG} {d : Nat} {c n : Nat} {m : PM} {Q : Ou → PM → Nat → Nat → Prop} {x1 : Int32} {x2 : Int32} {x3 : Int32} (h : ((40 ≤ x3 → Wq g (d + 5) MX5_goesOn c n 4 [some (pO 20 9 0), some (pI x1), some (pI (x2 + 1)), none, none] [] m Q) ∧ (¬ 40 ≤ x3 → ((36 ≤ x3 → (vp_in ((9 + (40 * x2)) + x3) 341 ∧ Wq g (d + 5) MX5_goesOn c n 62 [some (pO 20 9 0), some (pI x1), some (pI x2), some (pI (x3 + 1)), none] [] (setI m 21 9 0 (ix ((9 + (40 * x2)) + x3)) (-1)) Q)) ∧ (¬ 36 ≤ x3 → (vp_in (((9 + (40 * x2)) + x3) + 4) 341 ∧ (vp_in ((9 + (40 * x2)) + x3) 341 ∧ Wq g (d + 5) MX5_goesOn c n 62 [some (pO 20 9 0), some (pI x1), some (pI x2), some (pI (x3 + 1)), none] [] (setI m 21 9 0 (ix ((9 + (40 * x2)) + x3)) (m.1 9 21 0 (ix (((9 + (40 * x2)) + x3) + 4)))) Q))))))) : Wq g (d + 5) MX5_goesOn c n 62 [some (pO 20 9 0), some (pI x1), some (pI x2), some (pI x3), none] [] m Q := by
  refine Wq.iload_n (x := x3) dX5_goesOn_62 rfl ?_
  refine Wq.bipush (v := 40) dX5_goesOn_63 (by decide) ?_
  refine Wq.icmpge (tgt := 114) dX5_goesOn_65 (by decide) (fun q1 => ?_) (fun q1 => ?_)
  · replace h := h.1 q1
    refine Wq.iinc (x := x2) (ls2 := [some (pO 20 9 0), some (pI x1), some (pI (x2 + 1)), some (pI x3), none]) dX5_goesOn_114 rfl (by decide) rfl ?_
    refine Wq.goto (tgt := 4) dX5_goesOn_117 (by decide) ?_
    refine Wq.few (ls' := [some (pO 20 9 0), some (pI x1), some (pI (x2 + 1)), none, none]) ⟨rfl, ⟨rfl, ⟨rfl, trivial⟩⟩⟩ ?_
    exact h
  · replace h := h.2 q1
    refine Wq.aload_n (t := 20) (r := 9) (j := 0) dX5_goesOn_68 rfl ?_
    refine Wq.getf (v := pO 21 9 0) dX5_goesOn_69 fl_X5_7 ⟨rfl, rfl, by decide⟩ rfl ?_
    refine Wq.bipush (v := 9) dX5_goesOn_72 (by decide) ?_
    refine Wq.bipush (v := 40) dX5_goesOn_74 (by decide) ?_
    refine Wq.iload_n (x := x2) dX5_goesOn_76 rfl ?_
    refine Wq.imul dX5_goesOn_77 ?_
    refine Wq.iadd dX5_goesOn_78 ?_
    refine Wq.iload_n (x := x3) dX5_goesOn_79 rfl ?_
    refine Wq.iadd dX5_goesOn_80 ?_
    refine Wq.iload_n (x := x3) dX5_goesOn_81 rfl ?_
    refine Wq.bipush (v := 36) dX5_goesOn_82 (by decide) ?_
    refine Wq.icmpge (tgt := 106) dX5_goesOn_84 (by decide) (fun q2 => ?_) (fun q2 => ?_)
    · replace h := h.1 q2
      refine Wq.iconst (v := (-1)) dX5_goesOn_106 (by decide) ?_
      refine Wq.iast dX5_goesOn_107 rfl h.1 ?_
      replace h := h.2
      refine Wq.iinc (x := x3) (ls2 := [some (pO 20 9 0), some (pI x1), some (pI x2), some (pI (x3 + 1)), none]) dX5_goesOn_108 rfl (by decide) rfl ?_
      refine Wq.goto (tgt := 62) dX5_goesOn_111 (by decide) ?_
      exact h
    · replace h := h.2 q2
      refine Wq.aload_n (t := 20) (r := 9) (j := 0) dX5_goesOn_87 rfl ?_
      refine Wq.getf (v := pO 21 9 0) dX5_goesOn_88 fl_X5_7 ⟨rfl, rfl, by decide⟩ rfl ?_
      refine Wq.bipush (v := 9) dX5_goesOn_91 (by decide) ?_
      refine Wq.bipush (v := 40) dX5_goesOn_93 (by decide) ?_
      refine Wq.iload_n (x := x2) dX5_goesOn_95 rfl ?_
      refine Wq.imul dX5_goesOn_96 ?_
      refine Wq.iadd dX5_goesOn_97 ?_
      refine Wq.iload_n (x := x3) dX5_goesOn_98 rfl ?_
      refine Wq.iadd dX5_goesOn_99 ?_
      refine Wq.iconst (v := 4) dX5_goesOn_100 (by decide) ?_
      refine Wq.iadd dX5_goesOn_101 ?_
      refine Wq.iald dX5_goesOn_102 rfl h.1 ?_
      replace h := h.2
      refine Wq.goto (tgt := 107) dX5_goesOn_103 (by decide) ?_
      refine Wq.iast dX5_goesOn_107 rfl h.1 ?_
      replace h := h.2
      refine Wq.iinc (x := x3) (ls2 := [some (pO 20 9 0), some (pI x1), some (pI x2), some (pI (x3 + 1)), none]) dX5_goesOn_108 rfl (by decide) rfl ?_
      refine Wq.goto (tgt := 62) dX5_goesOn_111 (by decide) ?_
      exact h
set_option maxHeartbeats 4000000 in
set_option maxRecDepth 20000 in
theorem sgX5_count {g : GG} {d : Nat} {c n : Nat} {m : PM} {Q : Ou → PM → Nat → Nat → Prop} {x1 : Int32} (h : ((¬ ((¬ x1 < (0 : Int32)) ∧ (¬ (14 : Int32) < x1)) → Q (.inl (some (pI 0))) (setI m 20 9 0 0 1) c n) ∧ ((¬ x1 < (0 : Int32)) ∧ (¬ (14 : Int32) < x1) → Wp g (d + 4) MX5_counted 0 [some (pO 20 9 0), some (pI x1)] [] (setI m 20 9 0 0 0) (cI fun r2 m3 => Q (.inl (some (pI r2))) m3 c n)))) : Wq g (d + 5) MX5_count c n 0 [some (pO 20 9 0), some (pI x1)] [] m Q := by
  refine Wq.few (ls' := [some (pO 20 9 0), some (pI x1)]) ⟨rfl, ⟨rfl, trivial⟩⟩ ?_
  refine Wq.aload_n (t := 20) (r := 9) (j := 0) dX5_count_0 rfl ?_
  refine Wq.iload_n (x := x1) dX5_count_1 rfl ?_
  refine Wq.iconst (v := 0) dX5_count_2 (by decide) ?_
  refine Wq.bipush (v := 14) dX5_count_3 (by decide) ?_
  refine Wq.callSI (As := [pI x1, pI 0, pI 14]) dX5_count_5 fX5_in ml_X5_45 rfl (Nat.le_of_ble_eq_true rfl) (Nat.le_of_ble_eq_true rfl) (suX5_in trivial) (fun x4 m9 e9 => ?_)
  obtain ⟨rfl, rfl⟩ := e9
  refine Wq.ifeq (tgt := 15) dX5_count_8 (by decide) (fun q1 => ?_) (fun q1 => ?_)
  · replace h := h.1 (bI_0 q1)
    refine Wq.iconst (v := 1) dX5_count_15 (by decide) ?_
    refine Wq.callVI (As := [pI 1]) dX5_count_16 fX5_holds ml_X5_86 rfl (by decide) rfl (Nat.le_of_ble_eq_true rfl) (Nat.le_of_ble_eq_true rfl) ?_ (fun _ _ h9 => h9)
    refine Wq.few (ls' := [some (pO 20 9 0), some (pI 1)]) ⟨rfl, ⟨rfl, trivial⟩⟩ ?_
    refine Wq.aload_n (t := 20) (r := 9) (j := 0) dX5_holds_0 rfl ?_
    refine Wq.iload_n (x := 1) dX5_holds_1 rfl ?_
    refine Wq.putI dX5_holds_2 fw_X5_41 ⟨rfl, rfl, by decide⟩ ⟨rfl, by decide, by decide⟩ ⟨rfl, rfl⟩ ?_
    refine Wq.iload_n (x := 1) dX5_holds_5 rfl ?_
    refine Wq.ifne (tgt := 13) dX5_holds_6 (by decide) (fun _ => ?_) (fun q9 => absurd q9 (by decide))
    refine Wq.iconst (v := 0) dX5_holds_13 (by decide) ?_
    refine Wq.iretI dX5_holds_14 (⟨_, rfl, by decide⟩) ?_
    refine Wq.ifeq (tgt := 30) dX5_count_19 (by decide) (fun _ => ?_) (fun q9 => absurd q9 (by decide))
    refine Wq.iconst (v := 0) dX5_count_30 (by decide) ?_
    exact Wq.iret dX5_count_31 (⟨_, rfl, rfl⟩) h
  · replace h := h.2 (bI_1 q1)
    refine Wq.iconst (v := 0) dX5_count_11 (by decide) ?_
    refine Wq.goto (tgt := 16) dX5_count_12 (by decide) ?_
    refine Wq.callVI (As := [pI 0]) dX5_count_16 fX5_holds ml_X5_86 rfl (by decide) rfl (Nat.le_of_ble_eq_true rfl) (Nat.le_of_ble_eq_true rfl) ?_ (fun _ _ h9 => h9)
    refine Wq.few (ls' := [some (pO 20 9 0), some (pI 0)]) ⟨rfl, ⟨rfl, trivial⟩⟩ ?_
    refine Wq.aload_n (t := 20) (r := 9) (j := 0) dX5_holds_0 rfl ?_
    refine Wq.iload_n (x := 0) dX5_holds_1 rfl ?_
    refine Wq.putI dX5_holds_2 fw_X5_41 ⟨rfl, rfl, by decide⟩ ⟨rfl, by decide, by decide⟩ ⟨rfl, rfl⟩ ?_
    refine Wq.iload_n (x := 0) dX5_holds_5 rfl ?_
    refine Wq.ifne (tgt := 13) dX5_holds_6 (by decide) (fun q9 => absurd q9 (by decide)) (fun _ => ?_)
    refine Wq.iconst (v := 1) dX5_holds_9 (by decide) ?_
    refine Wq.goto (tgt := 14) dX5_holds_10 (by decide) ?_
    refine Wq.iretI dX5_holds_14 (⟨_, rfl, by decide⟩) ?_
    refine Wq.ifeq (tgt := 30) dX5_count_19 (by decide) (fun q9 => absurd q9 (by decide)) (fun _ => ?_)
    refine Wq.aload_n (t := 20) (r := 9) (j := 0) dX5_count_22 rfl ?_
    refine Wq.iload_n (x := x1) dX5_count_23 rfl ?_
    refine Wq.callVI (As := [pI x1]) dX5_count_24 fX5_counted ml_X5_200 rfl (by decide) rfl (Nat.le_of_ble_eq_true rfl) (Nat.le_of_ble_eq_true rfl) h (fun r2 m3 h => ?_)
    refine Wq.goto (tgt := 31) dX5_count_27 (by decide) ?_
    exact Wq.iret dX5_count_31 (⟨_, rfl, rfl⟩) h
set_option maxHeartbeats 4000000 in
set_option maxRecDepth 20000 in
theorem sgX5_couldHave {g : GG} {d : Nat} {c n : Nat} {m : PM} {Q : Ou → PM → Nat → Nat → Prop} {x1 : Int32} (h : ((¬ ((¬ x1 < (0 : Int32)) ∧ (¬ (9 : Int32) < x1)) → Q (.inl (some (pI 0))) (setI m 20 9 0 0 1) c n) ∧ ((¬ x1 < (0 : Int32)) ∧ (¬ (9 : Int32) < x1) → Wp g (d + 4) MX5_could 0 [some (pO 20 9 0), some (pI x1)] [] (setI m 20 9 0 0 0) (cI fun r2 m3 => Q (.inl (some (pI r2))) m3 c n)))) : Wq g (d + 5) MX5_couldHave c n 0 [some (pO 20 9 0), some (pI x1)] [] m Q := by
  refine Wq.few (ls' := [some (pO 20 9 0), some (pI x1)]) ⟨rfl, ⟨rfl, trivial⟩⟩ ?_
  refine Wq.aload_n (t := 20) (r := 9) (j := 0) dX5_couldHave_0 rfl ?_
  refine Wq.iload_n (x := x1) dX5_couldHave_1 rfl ?_
  refine Wq.iconst (v := 0) dX5_couldHave_2 (by decide) ?_
  refine Wq.bipush (v := 9) dX5_couldHave_3 (by decide) ?_
  refine Wq.callSI (As := [pI x1, pI 0, pI 9]) dX5_couldHave_5 fX5_in ml_X5_45 rfl (Nat.le_of_ble_eq_true rfl) (Nat.le_of_ble_eq_true rfl) (suX5_in trivial) (fun x4 m9 e9 => ?_)
  obtain ⟨rfl, rfl⟩ := e9
  refine Wq.ifeq (tgt := 15) dX5_couldHave_8 (by decide) (fun q1 => ?_) (fun q1 => ?_)
  · replace h := h.1 (bI_0 q1)
    refine Wq.iconst (v := 1) dX5_couldHave_15 (by decide) ?_
    refine Wq.callVI (As := [pI 1]) dX5_couldHave_16 fX5_holds ml_X5_86 rfl (by decide) rfl (Nat.le_of_ble_eq_true rfl) (Nat.le_of_ble_eq_true rfl) ?_ (fun _ _ h9 => h9)
    refine Wq.few (ls' := [some (pO 20 9 0), some (pI 1)]) ⟨rfl, ⟨rfl, trivial⟩⟩ ?_
    refine Wq.aload_n (t := 20) (r := 9) (j := 0) dX5_holds_0 rfl ?_
    refine Wq.iload_n (x := 1) dX5_holds_1 rfl ?_
    refine Wq.putI dX5_holds_2 fw_X5_41 ⟨rfl, rfl, by decide⟩ ⟨rfl, by decide, by decide⟩ ⟨rfl, rfl⟩ ?_
    refine Wq.iload_n (x := 1) dX5_holds_5 rfl ?_
    refine Wq.ifne (tgt := 13) dX5_holds_6 (by decide) (fun _ => ?_) (fun q9 => absurd q9 (by decide))
    refine Wq.iconst (v := 0) dX5_holds_13 (by decide) ?_
    refine Wq.iretI dX5_holds_14 (⟨_, rfl, by decide⟩) ?_
    refine Wq.ifeq (tgt := 30) dX5_couldHave_19 (by decide) (fun _ => ?_) (fun q9 => absurd q9 (by decide))
    refine Wq.iconst (v := 0) dX5_couldHave_30 (by decide) ?_
    exact Wq.iret dX5_couldHave_31 (⟨_, rfl, rfl⟩) h
  · replace h := h.2 (bI_1 q1)
    refine Wq.iconst (v := 0) dX5_couldHave_11 (by decide) ?_
    refine Wq.goto (tgt := 16) dX5_couldHave_12 (by decide) ?_
    refine Wq.callVI (As := [pI 0]) dX5_couldHave_16 fX5_holds ml_X5_86 rfl (by decide) rfl (Nat.le_of_ble_eq_true rfl) (Nat.le_of_ble_eq_true rfl) ?_ (fun _ _ h9 => h9)
    refine Wq.few (ls' := [some (pO 20 9 0), some (pI 0)]) ⟨rfl, ⟨rfl, trivial⟩⟩ ?_
    refine Wq.aload_n (t := 20) (r := 9) (j := 0) dX5_holds_0 rfl ?_
    refine Wq.iload_n (x := 0) dX5_holds_1 rfl ?_
    refine Wq.putI dX5_holds_2 fw_X5_41 ⟨rfl, rfl, by decide⟩ ⟨rfl, by decide, by decide⟩ ⟨rfl, rfl⟩ ?_
    refine Wq.iload_n (x := 0) dX5_holds_5 rfl ?_
    refine Wq.ifne (tgt := 13) dX5_holds_6 (by decide) (fun q9 => absurd q9 (by decide)) (fun _ => ?_)
    refine Wq.iconst (v := 1) dX5_holds_9 (by decide) ?_
    refine Wq.goto (tgt := 14) dX5_holds_10 (by decide) ?_
    refine Wq.iretI dX5_holds_14 (⟨_, rfl, by decide⟩) ?_
    refine Wq.ifeq (tgt := 30) dX5_couldHave_19 (by decide) (fun q9 => absurd q9 (by decide)) (fun _ => ?_)
    refine Wq.aload_n (t := 20) (r := 9) (j := 0) dX5_couldHave_22 rfl ?_
    refine Wq.iload_n (x := x1) dX5_couldHave_23 rfl ?_
    refine Wq.callVI (As := [pI x1]) dX5_couldHave_24 fX5_could ml_X5_209 rfl (by decide) rfl (Nat.le_of_ble_eq_true rfl) (Nat.le_of_ble_eq_true rfl) h (fun r2 m3 h => ?_)
    refine Wq.goto (tgt := 31) dX5_couldHave_27 (by decide) ?_
    exact Wq.iret dX5_couldHave_31 (⟨_, rfl, rfl⟩) h
set_option maxHeartbeats 4000000 in
set_option maxRecDepth 20000 in
theorem sgX5_ask {g : GG} {d : Nat} {c n : Nat} {m : PM} {Q : Ou → PM → Nat → Nat → Prop} {x1 : Int32} (h : (((¬ x1 < (0 : Int32)) ∧ (¬ ((m.1 9 21 0 (ix 2)) - 1) < x1) → (vp_in ((197 + (12 * x1)) + (0 : Int32)) 341 ∧ True)) ∧ ((¬ ((if (¬ x1 < (0 : Int32)) ∧ (¬ ((m.1 9 21 0 (ix 2)) - 1) < x1) then (if (m.1 9 21 0 (ix ((197 + (12 * x1)) + (0 : Int32)))) = 0 then 0 else 2) else 1) : Int32) = 0 → Q (.inl (some (pI 0))) (setI m 20 9 0 0 ((if (¬ x1 < (0 : Int32)) ∧ (¬ ((m.1 9 21 0 (ix 2)) - 1) < x1) then (if (m.1 9 21 0 (ix ((197 + (12 * x1)) + (0 : Int32)))) = 0 then 0 else 2) else 1) : Int32)) c n) ∧ (((if (¬ x1 < (0 : Int32)) ∧ (¬ ((m.1 9 21 0 (ix 2)) - 1) < x1) then (if (m.1 9 21 0 (ix ((197 + (12 * x1)) + (0 : Int32)))) = 0 then 0 else 2) else 1) : Int32) = 0 → Wp g (d + 5) MX5_save 0 [some (pO 20 9 0)] [] (setI m 20 9 0 0 ((if (¬ x1 < (0 : Int32)) ∧ (¬ ((m.1 9 21 0 (ix 2)) - 1) < x1) then (if (m.1 9 21 0 (ix ((197 + (12 * x1)) + (0 : Int32)))) = 0 then 0 else 2) else 1) : Int32)) (cV fun m3 => Wp g (d + 5) MX5_asks 0 [some (pO 20 9 0), some (pI x1)] [] m3 (cI fun r4 m5 => Q (.inl (some (pI r4))) m5 c n)))))) : Wq g (d + 6) MX5_ask c n 0 [some (pO 20 9 0), some (pI x1)] [] m Q := by
  refine Wq.few (ls' := [some (pO 20 9 0), some (pI x1)]) ⟨rfl, ⟨rfl, trivial⟩⟩ ?_
  refine Wq.aload_n (t := 20) (r := 9) (j := 0) dX5_ask_0 rfl ?_
  refine Wq.aload_n (t := 20) (r := 9) (j := 0) dX5_ask_1 rfl ?_
  refine Wq.iload_n (x := x1) dX5_ask_2 rfl ?_
  refine Wq.callVI (As := [pI x1]) dX5_ask_3 fX5_askFault ml_X5_109 rfl (by decide) rfl (Nat.le_of_ble_eq_true rfl) (Nat.le_of_ble_eq_true rfl) (suX5_askFault h.1) (fun x6 m9 e9 => ?_)
  obtain ⟨rfl, rfl⟩ := e9
  replace h := h.2
  refine Wq.callVI (As := [pI ((if (¬ x1 < (0 : Int32)) ∧ (¬ ((m.1 9 21 0 (ix 2)) - 1) < x1) then (if (m.1 9 21 0 (ix ((197 + (12 * x1)) + (0 : Int32)))) = 0 then 0 else 2) else 1) : Int32)]) dX5_ask_6 fX5_holds ml_X5_86 rfl (by decide) rfl (Nat.le_of_ble_eq_true rfl) (Nat.le_of_ble_eq_true rfl) ?_ (fun _ _ h9 => h9)
  refine Wq.few (ls' := [some (pO 20 9 0), some (pI ((if (¬ x1 < (0 : Int32)) ∧ (¬ ((m.1 9 21 0 (ix 2)) - 1) < x1) then (if (m.1 9 21 0 (ix ((197 + (12 * x1)) + (0 : Int32)))) = 0 then 0 else 2) else 1) : Int32))]) ⟨rfl, ⟨rfl, trivial⟩⟩ ?_
  refine Wq.aload_n (t := 20) (r := 9) (j := 0) dX5_holds_0 rfl ?_
  refine Wq.iload_n (x := ((if (¬ x1 < (0 : Int32)) ∧ (¬ ((m.1 9 21 0 (ix 2)) - 1) < x1) then (if (m.1 9 21 0 (ix ((197 + (12 * x1)) + (0 : Int32)))) = 0 then 0 else 2) else 1) : Int32)) dX5_holds_1 rfl ?_
  refine Wq.putI dX5_holds_2 fw_X5_41 ⟨rfl, rfl, by decide⟩ ⟨rfl, by decide, by decide⟩ ⟨rfl, rfl⟩ ?_
  refine Wq.iload_n (x := ((if (¬ x1 < (0 : Int32)) ∧ (¬ ((m.1 9 21 0 (ix 2)) - 1) < x1) then (if (m.1 9 21 0 (ix ((197 + (12 * x1)) + (0 : Int32)))) = 0 then 0 else 2) else 1) : Int32)) dX5_holds_5 rfl ?_
  refine Wq.ifne (tgt := 13) dX5_holds_6 (by decide) (fun q1 => ?_) (fun q1 => ?_)
  · replace h := h.1 q1
    refine Wq.iconst (v := 0) dX5_holds_13 (by decide) ?_
    refine Wq.iretI dX5_holds_14 (⟨_, rfl, by decide⟩) ?_
    refine Wq.ifne (tgt := 14) dX5_ask_9 (by decide) (fun q9 => absurd q9 (by decide)) (fun _ => ?_)
    refine Wq.iconst (v := 0) dX5_ask_12 (by decide) ?_
    exact Wq.iret dX5_ask_13 (⟨_, rfl, rfl⟩) h
  · replace h := h.2 q1
    refine Wq.iconst (v := 1) dX5_holds_9 (by decide) ?_
    refine Wq.goto (tgt := 14) dX5_holds_10 (by decide) ?_
    refine Wq.iretI dX5_holds_14 (⟨_, rfl, by decide⟩) ?_
    refine Wq.ifne (tgt := 14) dX5_ask_9 (by decide) (fun _ => ?_) (fun q9 => absurd q9 (by decide))
    refine Wq.aload_n (t := 20) (r := 9) (j := 0) dX5_ask_14 rfl ?_
    refine Wq.callVV (As := []) dX5_ask_15 fX5_save ml_X5_90 rfl (by decide) rfl (Nat.le_of_ble_eq_true rfl) (Nat.le_of_ble_eq_true rfl) h (fun m3 h => ?_)
    refine Wq.aload_n (t := 20) (r := 9) (j := 0) dX5_ask_18 rfl ?_
    refine Wq.iload_n (x := x1) dX5_ask_19 rfl ?_
    refine Wq.callVI (As := [pI x1]) dX5_ask_20 fX5_asks ml_X5_112 rfl (by decide) rfl (Nat.le_of_ble_eq_true rfl) (Nat.le_of_ble_eq_true rfl) h (fun r4 m5 h => ?_)
    exact Wq.iret dX5_ask_23 (⟨_, rfl, rfl⟩) h
set_option maxHeartbeats 4000000 in
set_option maxRecDepth 20000 in
theorem sgX5_quit {g : GG} {d : Nat} {c n : Nat} {m : PM} {Q : Ou → PM → Nat → Nat → Prop} {x1 : Int32} (h : (((¬ x1 < (0 : Int32)) ∧ (¬ ((m.1 9 21 0 (ix 2)) - 1) < x1) → (vp_in ((197 + (12 * x1)) + (0 : Int32)) 341 ∧ True)) ∧ ((¬ ((if (¬ x1 < (0 : Int32)) ∧ (¬ ((m.1 9 21 0 (ix 2)) - 1) < x1) then (if (¬ (m.1 9 21 0 (ix ((197 + (12 * x1)) + (0 : Int32)))) < (1 : Int32)) ∧ (¬ (2 : Int32) < (m.1 9 21 0 (ix ((197 + (12 * x1)) + (0 : Int32))))) then 0 else 2) else 1) : Int32) = 0 → Q (.inl (some (pI 0))) (setI m 20 9 0 0 ((if (¬ x1 < (0 : Int32)) ∧ (¬ ((m.1 9 21 0 (ix 2)) - 1) < x1) then (if (¬ (m.1 9 21 0 (ix ((197 + (12 * x1)) + (0 : Int32)))) < (1 : Int32)) ∧ (¬ (2 : Int32) < (m.1 9 21 0 (ix ((197 + (12 * x1)) + (0 : Int32))))) then 0 else 2) else 1) : Int32)) c n) ∧ (((if (¬ x1 < (0 : Int32)) ∧ (¬ ((m.1 9 21 0 (ix 2)) - 1) < x1) then (if (¬ (m.1 9 21 0 (ix ((197 + (12 * x1)) + (0 : Int32)))) < (1 : Int32)) ∧ (¬ (2 : Int32) < (m.1 9 21 0 (ix ((197 + (12 * x1)) + (0 : Int32))))) then 0 else 2) else 1) : Int32) = 0 → Wp g (d + 5) MX5_save 0 [some (pO 20 9 0)] [] (setI m 20 9 0 0 ((if (¬ x1 < (0 : Int32)) ∧ (¬ ((m.1 9 21 0 (ix 2)) - 1) < x1) then (if (¬ (m.1 9 21 0 (ix ((197 + (12 * x1)) + (0 : Int32)))) < (1 : Int32)) ∧ (¬ (2 : Int32) < (m.1 9 21 0 (ix ((197 + (12 * x1)) + (0 : Int32))))) then 0 else 2) else 1) : Int32)) (cV fun m3 => Wp g (d + 5) MX5_quits 0 [some (pO 20 9 0), some (pI x1)] [] m3 (cI fun r4 m5 => Q (.inl (some (pI r4))) m5 c n)))))) : Wq g (d + 6) MX5_quit c n 0 [some (pO 20 9 0), some (pI x1)] [] m Q := by
  refine Wq.few (ls' := [some (pO 20 9 0), some (pI x1)]) ⟨rfl, ⟨rfl, trivial⟩⟩ ?_
  refine Wq.aload_n (t := 20) (r := 9) (j := 0) dX5_quit_0 rfl ?_
  refine Wq.aload_n (t := 20) (r := 9) (j := 0) dX5_quit_1 rfl ?_
  refine Wq.iload_n (x := x1) dX5_quit_2 rfl ?_
  refine Wq.callVI (As := [pI x1]) dX5_quit_3 fX5_quitFault ml_X5_115 rfl (by decide) rfl (Nat.le_of_ble_eq_true rfl) (Nat.le_of_ble_eq_true rfl) (suX5_quitFault h.1) (fun x6 m9 e9 => ?_)
  obtain ⟨rfl, rfl⟩ := e9
  replace h := h.2
  refine Wq.callVI (As := [pI ((if (¬ x1 < (0 : Int32)) ∧ (¬ ((m.1 9 21 0 (ix 2)) - 1) < x1) then (if (¬ (m.1 9 21 0 (ix ((197 + (12 * x1)) + (0 : Int32)))) < (1 : Int32)) ∧ (¬ (2 : Int32) < (m.1 9 21 0 (ix ((197 + (12 * x1)) + (0 : Int32))))) then 0 else 2) else 1) : Int32)]) dX5_quit_6 fX5_holds ml_X5_86 rfl (by decide) rfl (Nat.le_of_ble_eq_true rfl) (Nat.le_of_ble_eq_true rfl) ?_ (fun _ _ h9 => h9)
  refine Wq.few (ls' := [some (pO 20 9 0), some (pI ((if (¬ x1 < (0 : Int32)) ∧ (¬ ((m.1 9 21 0 (ix 2)) - 1) < x1) then (if (¬ (m.1 9 21 0 (ix ((197 + (12 * x1)) + (0 : Int32)))) < (1 : Int32)) ∧ (¬ (2 : Int32) < (m.1 9 21 0 (ix ((197 + (12 * x1)) + (0 : Int32))))) then 0 else 2) else 1) : Int32))]) ⟨rfl, ⟨rfl, trivial⟩⟩ ?_
  refine Wq.aload_n (t := 20) (r := 9) (j := 0) dX5_holds_0 rfl ?_
  refine Wq.iload_n (x := ((if (¬ x1 < (0 : Int32)) ∧ (¬ ((m.1 9 21 0 (ix 2)) - 1) < x1) then (if (¬ (m.1 9 21 0 (ix ((197 + (12 * x1)) + (0 : Int32)))) < (1 : Int32)) ∧ (¬ (2 : Int32) < (m.1 9 21 0 (ix ((197 + (12 * x1)) + (0 : Int32))))) then 0 else 2) else 1) : Int32)) dX5_holds_1 rfl ?_
  refine Wq.putI dX5_holds_2 fw_X5_41 ⟨rfl, rfl, by decide⟩ ⟨rfl, by decide, by decide⟩ ⟨rfl, rfl⟩ ?_
  refine Wq.iload_n (x := ((if (¬ x1 < (0 : Int32)) ∧ (¬ ((m.1 9 21 0 (ix 2)) - 1) < x1) then (if (¬ (m.1 9 21 0 (ix ((197 + (12 * x1)) + (0 : Int32)))) < (1 : Int32)) ∧ (¬ (2 : Int32) < (m.1 9 21 0 (ix ((197 + (12 * x1)) + (0 : Int32))))) then 0 else 2) else 1) : Int32)) dX5_holds_5 rfl ?_
  refine Wq.ifne (tgt := 13) dX5_holds_6 (by decide) (fun q1 => ?_) (fun q1 => ?_)
  · replace h := h.1 q1
    refine Wq.iconst (v := 0) dX5_holds_13 (by decide) ?_
    refine Wq.iretI dX5_holds_14 (⟨_, rfl, by decide⟩) ?_
    refine Wq.ifne (tgt := 14) dX5_quit_9 (by decide) (fun q9 => absurd q9 (by decide)) (fun _ => ?_)
    refine Wq.iconst (v := 0) dX5_quit_12 (by decide) ?_
    exact Wq.iret dX5_quit_13 (⟨_, rfl, rfl⟩) h
  · replace h := h.2 q1
    refine Wq.iconst (v := 1) dX5_holds_9 (by decide) ?_
    refine Wq.goto (tgt := 14) dX5_holds_10 (by decide) ?_
    refine Wq.iretI dX5_holds_14 (⟨_, rfl, by decide⟩) ?_
    refine Wq.ifne (tgt := 14) dX5_quit_9 (by decide) (fun _ => ?_) (fun q9 => absurd q9 (by decide))
    refine Wq.aload_n (t := 20) (r := 9) (j := 0) dX5_quit_14 rfl ?_
    refine Wq.callVV (As := []) dX5_quit_15 fX5_save ml_X5_90 rfl (by decide) rfl (Nat.le_of_ble_eq_true rfl) (Nat.le_of_ble_eq_true rfl) h (fun m3 h => ?_)
    refine Wq.aload_n (t := 20) (r := 9) (j := 0) dX5_quit_18 rfl ?_
    refine Wq.iload_n (x := x1) dX5_quit_19 rfl ?_
    refine Wq.callVI (As := [pI x1]) dX5_quit_20 fX5_quits ml_X5_118 rfl (by decide) rfl (Nat.le_of_ble_eq_true rfl) (Nat.le_of_ble_eq_true rfl) h (fun r4 m5 h => ?_)
    exact Wq.iret dX5_quit_23 (⟨_, rfl, rfl⟩) h
set_option maxHeartbeats 4000000 in
set_option maxRecDepth 20000 in
theorem sgX5_cancel {g : GG} {d : Nat} {c n : Nat} {m : PM} {Q : Ou → PM → Nat → Nat → Prop} {x1 : Int32} {x2 : Int32} (h : ((¬ ((if (¬ x1 < (0 : Int32)) ∧ (¬ ((m.1 9 21 0 (ix 1)) - 1) < x1) then (if (¬ x2 < (0 : Int32)) ∧ (¬ (9 : Int32) < x2) then 0 else 2) else 1) : Int32) = 0 → Q (.inl (some (pI 0))) (setI m 20 9 0 0 ((if (¬ x1 < (0 : Int32)) ∧ (¬ ((m.1 9 21 0 (ix 1)) - 1) < x1) then (if (¬ x2 < (0 : Int32)) ∧ (¬ (9 : Int32) < x2) then 0 else 2) else 1) : Int32)) c n) ∧ (((if (¬ x1 < (0 : Int32)) ∧ (¬ ((m.1 9 21 0 (ix 1)) - 1) < x1) then (if (¬ x2 < (0 : Int32)) ∧ (¬ (9 : Int32) < x2) then 0 else 2) else 1) : Int32) = 0 → Wp g (d + 5) MX5_save 0 [some (pO 20 9 0)] [] (setI m 20 9 0 0 ((if (¬ x1 < (0 : Int32)) ∧ (¬ ((m.1 9 21 0 (ix 1)) - 1) < x1) then (if (¬ x2 < (0 : Int32)) ∧ (¬ (9 : Int32) < x2) then 0 else 2) else 1) : Int32)) (cV fun m3 => Wp g (d + 5) MX5_cancels 0 [some (pO 20 9 0), some (pI x1), some (pI x2)] [] m3 (cI fun r4 m5 => Q (.inl (some (pI r4))) m5 c n))))) : Wq g (d + 6) MX5_cancel c n 0 [some (pO 20 9 0), some (pI x1), some (pI x2)] [] m Q := by
  refine Wq.few (ls' := [some (pO 20 9 0), some (pI x1), some (pI x2)]) ⟨rfl, ⟨rfl, ⟨rfl, trivial⟩⟩⟩ ?_
  refine Wq.aload_n (t := 20) (r := 9) (j := 0) dX5_cancel_0 rfl ?_
  refine Wq.aload_n (t := 20) (r := 9) (j := 0) dX5_cancel_1 rfl ?_
  refine Wq.iload_n (x := x1) dX5_cancel_2 rfl ?_
  refine Wq.iload_n (x := x2) dX5_cancel_3 rfl ?_
  refine Wq.callVI (As := [pI x1, pI x2]) dX5_cancel_4 fX5_cancelFault ml_X5_124 rfl (by decide) rfl (Nat.le_of_ble_eq_true rfl) (Nat.le_of_ble_eq_true rfl) (suX5_cancelFault trivial) (fun x6 m9 e9 => ?_)
  obtain ⟨rfl, rfl⟩ := e9
  refine Wq.callVI (As := [pI ((if (¬ x1 < (0 : Int32)) ∧ (¬ ((m.1 9 21 0 (ix 1)) - 1) < x1) then (if (¬ x2 < (0 : Int32)) ∧ (¬ (9 : Int32) < x2) then 0 else 2) else 1) : Int32)]) dX5_cancel_7 fX5_holds ml_X5_86 rfl (by decide) rfl (Nat.le_of_ble_eq_true rfl) (Nat.le_of_ble_eq_true rfl) ?_ (fun _ _ h9 => h9)
  refine Wq.few (ls' := [some (pO 20 9 0), some (pI ((if (¬ x1 < (0 : Int32)) ∧ (¬ ((m.1 9 21 0 (ix 1)) - 1) < x1) then (if (¬ x2 < (0 : Int32)) ∧ (¬ (9 : Int32) < x2) then 0 else 2) else 1) : Int32))]) ⟨rfl, ⟨rfl, trivial⟩⟩ ?_
  refine Wq.aload_n (t := 20) (r := 9) (j := 0) dX5_holds_0 rfl ?_
  refine Wq.iload_n (x := ((if (¬ x1 < (0 : Int32)) ∧ (¬ ((m.1 9 21 0 (ix 1)) - 1) < x1) then (if (¬ x2 < (0 : Int32)) ∧ (¬ (9 : Int32) < x2) then 0 else 2) else 1) : Int32)) dX5_holds_1 rfl ?_
  refine Wq.putI dX5_holds_2 fw_X5_41 ⟨rfl, rfl, by decide⟩ ⟨rfl, by decide, by decide⟩ ⟨rfl, rfl⟩ ?_
  refine Wq.iload_n (x := ((if (¬ x1 < (0 : Int32)) ∧ (¬ ((m.1 9 21 0 (ix 1)) - 1) < x1) then (if (¬ x2 < (0 : Int32)) ∧ (¬ (9 : Int32) < x2) then 0 else 2) else 1) : Int32)) dX5_holds_5 rfl ?_
  refine Wq.ifne (tgt := 13) dX5_holds_6 (by decide) (fun q1 => ?_) (fun q1 => ?_)
  · replace h := h.1 q1
    refine Wq.iconst (v := 0) dX5_holds_13 (by decide) ?_
    refine Wq.iretI dX5_holds_14 (⟨_, rfl, by decide⟩) ?_
    refine Wq.ifne (tgt := 15) dX5_cancel_10 (by decide) (fun q9 => absurd q9 (by decide)) (fun _ => ?_)
    refine Wq.iconst (v := 0) dX5_cancel_13 (by decide) ?_
    exact Wq.iret dX5_cancel_14 (⟨_, rfl, rfl⟩) h
  · replace h := h.2 q1
    refine Wq.iconst (v := 1) dX5_holds_9 (by decide) ?_
    refine Wq.goto (tgt := 14) dX5_holds_10 (by decide) ?_
    refine Wq.iretI dX5_holds_14 (⟨_, rfl, by decide⟩) ?_
    refine Wq.ifne (tgt := 15) dX5_cancel_10 (by decide) (fun _ => ?_) (fun q9 => absurd q9 (by decide))
    refine Wq.aload_n (t := 20) (r := 9) (j := 0) dX5_cancel_15 rfl ?_
    refine Wq.callVV (As := []) dX5_cancel_16 fX5_save ml_X5_90 rfl (by decide) rfl (Nat.le_of_ble_eq_true rfl) (Nat.le_of_ble_eq_true rfl) h (fun m3 h => ?_)
    refine Wq.aload_n (t := 20) (r := 9) (j := 0) dX5_cancel_19 rfl ?_
    refine Wq.iload_n (x := x1) dX5_cancel_20 rfl ?_
    refine Wq.iload_n (x := x2) dX5_cancel_21 rfl ?_
    refine Wq.callVI (As := [pI x1, pI x2]) dX5_cancel_22 fX5_cancels ml_X5_127 rfl (by decide) rfl (Nat.le_of_ble_eq_true rfl) (Nat.le_of_ble_eq_true rfl) h (fun r4 m5 h => ?_)
    exact Wq.iret dX5_cancel_25 (⟨_, rfl, rfl⟩) h
set_option maxHeartbeats 4000000 in
set_option maxRecDepth 20000 in
theorem sgX5_next {g : GG} {d : Nat} {c n : Nat} {m : PM} {Q : Ou → PM → Nat → Nat → Prop}  (h : ((¬ ((if ¬ (m.1 9 21 0 (ix 0)) = 9999 then 0 else 1) : Int32) = 0 → Q (.inl (some (pI 0))) (setI m 20 9 0 0 ((if ¬ (m.1 9 21 0 (ix 0)) = 9999 then 0 else 1) : Int32)) c n) ∧ (((if ¬ (m.1 9 21 0 (ix 0)) = 9999 then 0 else 1) : Int32) = 0 → Wp g (d + 5) MX5_save 0 [some (pO 20 9 0)] [] (setI m 20 9 0 0 ((if ¬ (m.1 9 21 0 (ix 0)) = 9999 then 0 else 1) : Int32)) (cV fun m3 => Wp g (d + 5) MX5_goesOn 0 [some (pO 20 9 0)] [] m3 (cI fun r4 m5 => Q (.inl (some (pI r4))) m5 c n))))) : Wq g (d + 6) MX5_next c n 0 [some (pO 20 9 0)] [] m Q := by
  refine Wq.few (ls' := [some (pO 20 9 0)]) ⟨rfl, trivial⟩ ?_
  refine Wq.aload_n (t := 20) (r := 9) (j := 0) dX5_next_0 rfl ?_
  refine Wq.aload_n (t := 20) (r := 9) (j := 0) dX5_next_1 rfl ?_
  refine Wq.callVI (As := []) dX5_next_2 fX5_nextFault ml_X5_140 rfl (by decide) rfl (Nat.le_of_ble_eq_true rfl) (Nat.le_of_ble_eq_true rfl) (suX5_nextFault trivial) (fun x6 m9 e9 => ?_)
  obtain ⟨rfl, rfl⟩ := e9
  refine Wq.callVI (As := [pI ((if ¬ (m.1 9 21 0 (ix 0)) = 9999 then 0 else 1) : Int32)]) dX5_next_5 fX5_holds ml_X5_86 rfl (by decide) rfl (Nat.le_of_ble_eq_true rfl) (Nat.le_of_ble_eq_true rfl) ?_ (fun _ _ h9 => h9)
  refine Wq.few (ls' := [some (pO 20 9 0), some (pI ((if ¬ (m.1 9 21 0 (ix 0)) = 9999 then 0 else 1) : Int32))]) ⟨rfl, ⟨rfl, trivial⟩⟩ ?_
  refine Wq.aload_n (t := 20) (r := 9) (j := 0) dX5_holds_0 rfl ?_
  refine Wq.iload_n (x := ((if ¬ (m.1 9 21 0 (ix 0)) = 9999 then 0 else 1) : Int32)) dX5_holds_1 rfl ?_
  refine Wq.putI dX5_holds_2 fw_X5_41 ⟨rfl, rfl, by decide⟩ ⟨rfl, by decide, by decide⟩ ⟨rfl, rfl⟩ ?_
  refine Wq.iload_n (x := ((if ¬ (m.1 9 21 0 (ix 0)) = 9999 then 0 else 1) : Int32)) dX5_holds_5 rfl ?_
  refine Wq.ifne (tgt := 13) dX5_holds_6 (by decide) (fun q1 => ?_) (fun q1 => ?_)
  · replace h := h.1 q1
    refine Wq.iconst (v := 0) dX5_holds_13 (by decide) ?_
    refine Wq.iretI dX5_holds_14 (⟨_, rfl, by decide⟩) ?_
    refine Wq.ifne (tgt := 13) dX5_next_8 (by decide) (fun q9 => absurd q9 (by decide)) (fun _ => ?_)
    refine Wq.iconst (v := 0) dX5_next_11 (by decide) ?_
    exact Wq.iret dX5_next_12 (⟨_, rfl, rfl⟩) h
  · replace h := h.2 q1
    refine Wq.iconst (v := 1) dX5_holds_9 (by decide) ?_
    refine Wq.goto (tgt := 14) dX5_holds_10 (by decide) ?_
    refine Wq.iretI dX5_holds_14 (⟨_, rfl, by decide⟩) ?_
    refine Wq.ifne (tgt := 13) dX5_next_8 (by decide) (fun _ => ?_) (fun q9 => absurd q9 (by decide))
    refine Wq.aload_n (t := 20) (r := 9) (j := 0) dX5_next_13 rfl ?_
    refine Wq.callVV (As := []) dX5_next_14 fX5_save ml_X5_90 rfl (by decide) rfl (Nat.le_of_ble_eq_true rfl) (Nat.le_of_ble_eq_true rfl) h (fun m3 h => ?_)
    refine Wq.aload_n (t := 20) (r := 9) (j := 0) dX5_next_17 rfl ?_
    refine Wq.callVI (As := []) dX5_next_18 fX5_goesOn ml_X5_144 rfl (by decide) rfl (Nat.le_of_ble_eq_true rfl) (Nat.le_of_ble_eq_true rfl) h (fun r4 m5 h => ?_)
    exact Wq.iret dX5_next_21 (⟨_, rfl, rfl⟩) h
set_option maxHeartbeats 4000000 in
set_option maxRecDepth 20000 in
theorem sgX5_does {g : GG} {d : Nat} {c n : Nat} {m : PM} {Q : Ou → PM → Nat → Nat → Prop}  (h : ((¬ (m.1 9 26 0 (ix 0)) = 97 → ((¬ (m.1 9 26 0 (ix 0)) = 113 → (((m.1 9 26 0 (ix 0)) = 112 → Wq g (d + 6) MX5_does c n 61 [some (pO 20 9 0), some (pI (m.1 9 26 0 (ix 0))), some (pI (m.1 9 26 0 (ix 1))), some (pI (m.1 9 26 0 (ix 2))), none, none] [] m Q) ∧ (¬ (m.1 9 26 0 (ix 0)) = 112 → ((¬ (m.1 9 26 0 (ix 0)) = 102 → ((¬ (m.1 9 26 0 (ix 0)) = 105 → Wq g (d + 6) MX5_does c n 88 [some (pO 20 9 0), some (pI (m.1 9 26 0 (ix 0))), some (pI (m.1 9 26 0 (ix 1))), some (pI (m.1 9 26 0 (ix 2))), none, none] [pI ((if ¬ (m.1 9 21 0 (ix 0)) = 9999 then 0 else 1) : Int32)] m Q) ∧ ((m.1 9 26 0 (ix 0)) = 105 → Wq g (d + 6) MX5_does c n 88 [some (pO 20 9 0), some (pI (m.1 9 26 0 (ix 0))), some (pI (m.1 9 26 0 (ix 1))), some (pI (m.1 9 26 0 (ix 2))), none, none] [pI ((if (¬ (m.1 9 26 0 (ix 1)) < (0 : Int32)) ∧ (¬ ((m.1 9 21 0 (ix 1)) - 1) < (m.1 9 26 0 (ix 1))) then (if (¬ (m.1 9 26 0 (ix 2)) < (0 : Int32)) ∧ (¬ (9 : Int32) < (m.1 9 26 0 (ix 2))) then 0 else 2) else 1) : Int32)] m Q))) ∧ ((m.1 9 26 0 (ix 0)) = 102 → Wq g (d + 6) MX5_does c n 61 [some (pO 20 9 0), some (pI (m.1 9 26 0 (ix 0))), some (pI (m.1 9 26 0 (ix 1))), some (pI (m.1 9 26 0 (ix 2))), none, none] [] m Q))))) ∧ ((m.1 9 26 0 (ix 0)) = 113 → (((¬ (m.1 9 26 0 (ix 1)) < (0 : Int32)) ∧ (¬ ((m.1 9 21 0 (ix 2)) - 1) < (m.1 9 26 0 (ix 1))) → (vp_in ((197 + (12 * (m.1 9 26 0 (ix 1)))) + (0 : Int32)) 341 ∧ True)) ∧ Wq g (d + 6) MX5_does c n 88 [some (pO 20 9 0), some (pI (m.1 9 26 0 (ix 0))), some (pI (m.1 9 26 0 (ix 1))), some (pI (m.1 9 26 0 (ix 2))), none, none] [pI ((if (¬ (m.1 9 26 0 (ix 1)) < (0 : Int32)) ∧ (¬ ((m.1 9 21 0 (ix 2)) - 1) < (m.1 9 26 0 (ix 1))) then (if (¬ (m.1 9 21 0 (ix ((197 + (12 * (m.1 9 26 0 (ix 1)))) + (0 : Int32)))) < (1 : Int32)) ∧ (¬ (2 : Int32) < (m.1 9 21 0 (ix ((197 + (12 * (m.1 9 26 0 (ix 1)))) + (0 : Int32))))) then 0 else 2) else 1) : Int32)] m Q)))) ∧ ((m.1 9 26 0 (ix 0)) = 97 → (((¬ (m.1 9 26 0 (ix 1)) < (0 : Int32)) ∧ (¬ ((m.1 9 21 0 (ix 2)) - 1) < (m.1 9 26 0 (ix 1))) → (vp_in ((197 + (12 * (m.1 9 26 0 (ix 1)))) + (0 : Int32)) 341 ∧ True)) ∧ Wq g (d + 6) MX5_does c n 88 [some (pO 20 9 0), some (pI (m.1 9 26 0 (ix 0))), some (pI (m.1 9 26 0 (ix 1))), some (pI (m.1 9 26 0 (ix 2))), none, none] [pI ((if (¬ (m.1 9 26 0 (ix 1)) < (0 : Int32)) ∧ (¬ ((m.1 9 21 0 (ix 2)) - 1) < (m.1 9 26 0 (ix 1))) then (if (m.1 9 21 0 (ix ((197 + (12 * (m.1 9 26 0 (ix 1)))) + (0 : Int32)))) = 0 then 0 else 2) else 1) : Int32)] m Q)))) : Wq g (d + 6) MX5_does c n 0 [some (pO 20 9 0)] [] m Q := by
  refine Wq.few (ls' := [some (pO 20 9 0), none, none, none, none, none]) ⟨rfl, trivial⟩ ?_
  refine Wq.aload_n (t := 20) (r := 9) (j := 0) dX5_does_0 rfl ?_
  refine Wq.getf (v := pO 26 9 0) dX5_does_1 fl_X5_25 ⟨rfl, rfl, by decide⟩ rfl ?_
  refine Wq.iconst (v := 0) dX5_does_4 (by decide) ?_
  refine Wq.iald dX5_does_5 rfl (vp_dec rfl) ?_
  refine Wq.istore_n (ls2 := [some (pO 20 9 0), some (pI (m.1 9 26 0 (ix 0))), none, none, none, none]) dX5_does_6 (by decide) rfl ?_
  refine Wq.aload_n (t := 20) (r := 9) (j := 0) dX5_does_7 rfl ?_
  refine Wq.getf (v := pO 26 9 0) dX5_does_8 fl_X5_25 ⟨rfl, rfl, by decide⟩ rfl ?_
  refine Wq.iconst (v := 1) dX5_does_11 (by decide) ?_
  refine Wq.iald dX5_does_12 rfl (vp_dec rfl) ?_
  refine Wq.istore_n (ls2 := [some (pO 20 9 0), some (pI (m.1 9 26 0 (ix 0))), some (pI (m.1 9 26 0 (ix 1))), none, none, none]) dX5_does_13 (by decide) rfl ?_
  refine Wq.aload_n (t := 20) (r := 9) (j := 0) dX5_does_14 rfl ?_
  refine Wq.getf (v := pO 26 9 0) dX5_does_15 fl_X5_25 ⟨rfl, rfl, by decide⟩ rfl ?_
  refine Wq.iconst (v := 2) dX5_does_18 (by decide) ?_
  refine Wq.iald dX5_does_19 rfl (vp_dec rfl) ?_
  refine Wq.istore_n (ls2 := [some (pO 20 9 0), some (pI (m.1 9 26 0 (ix 0))), some (pI (m.1 9 26 0 (ix 1))), some (pI (m.1 9 26 0 (ix 2))), none, none]) dX5_does_20 (by decide) rfl ?_
  refine Wq.iload_n (x := (m.1 9 26 0 (ix 0))) dX5_does_21 rfl ?_
  refine Wq.bipush (v := 97) dX5_does_22 (by decide) ?_
  refine Wq.icmpne (tgt := 35) dX5_does_24 (by decide) (fun q1 => ?_) (fun q1 => ?_)
  · replace h := h.1 q1
    refine Wq.iload_n (x := (m.1 9 26 0 (ix 0))) dX5_does_35 rfl ?_
    refine Wq.bipush (v := 113) dX5_does_36 (by decide) ?_
    refine Wq.icmpne (tgt := 49) dX5_does_38 (by decide) (fun q2 => ?_) (fun q2 => ?_)
    · replace h := h.1 q2
      refine Wq.iload_n (x := (m.1 9 26 0 (ix 0))) dX5_does_49 rfl ?_
      refine Wq.bipush (v := 112) dX5_does_50 (by decide) ?_
      refine Wq.icmpeq (tgt := 61) dX5_does_52 (by decide) (fun q3 => ?_) (fun q3 => ?_)
      · replace h := h.1 q3
        exact h
      · replace h := h.2 q3
        refine Wq.iload_n (x := (m.1 9 26 0 (ix 0))) dX5_does_55 rfl ?_
        refine Wq.bipush (v := 102) dX5_does_56 (by decide) ?_
        refine Wq.icmpne (tgt := 69) dX5_does_58 (by decide) (fun q4 => ?_) (fun q4 => ?_)
        · replace h := h.1 q4
          refine Wq.iload_n (x := (m.1 9 26 0 (ix 0))) dX5_does_69 rfl ?_
          refine Wq.bipush (v := 105) dX5_does_70 (by decide) ?_
          refine Wq.icmpne (tgt := 84) dX5_does_72 (by decide) (fun q5 => ?_) (fun q5 => ?_)
          · replace h := h.1 q5
            refine Wq.aload_n (t := 20) (r := 9) (j := 0) dX5_does_84 rfl ?_
            refine Wq.callVI (As := []) dX5_does_85 fX5_nextFault ml_X5_140 rfl (by decide) rfl (Nat.le_of_ble_eq_true rfl) (Nat.le_of_ble_eq_true rfl) (suX5_nextFault trivial) (fun x6 m9 e9 => ?_)
            obtain ⟨rfl, rfl⟩ := e9
            exact h
          · replace h := h.2 q5
            refine Wq.aload_n (t := 20) (r := 9) (j := 0) dX5_does_75 rfl ?_
            refine Wq.iload_n (x := (m.1 9 26 0 (ix 1))) dX5_does_76 rfl ?_
            refine Wq.iload_n (x := (m.1 9 26 0 (ix 2))) dX5_does_77 rfl ?_
            refine Wq.callVI (As := [pI (m.1 9 26 0 (ix 1)), pI (m.1 9 26 0 (ix 2))]) dX5_does_78 fX5_cancelFault ml_X5_124 rfl (by decide) rfl (Nat.le_of_ble_eq_true rfl) (Nat.le_of_ble_eq_true rfl) (suX5_cancelFault trivial) (fun x7 m9 e9 => ?_)
            obtain ⟨rfl, rfl⟩ := e9
            refine Wq.goto (tgt := 88) dX5_does_81 (by decide) ?_
            exact h
        · replace h := h.2 q4
          exact h
    · replace h := h.2 q2
      refine Wq.aload_n (t := 20) (r := 9) (j := 0) dX5_does_41 rfl ?_
      refine Wq.iload_n (x := (m.1 9 26 0 (ix 1))) dX5_does_42 rfl ?_
      refine Wq.callVI (As := [pI (m.1 9 26 0 (ix 1))]) dX5_does_43 fX5_quitFault ml_X5_115 rfl (by decide) rfl (Nat.le_of_ble_eq_true rfl) (Nat.le_of_ble_eq_true rfl) (suX5_quitFault h.1) (fun x8 m9 e9 => ?_)
      obtain ⟨rfl, rfl⟩ := e9
      replace h := h.2
      refine Wq.goto (tgt := 88) dX5_does_46 (by decide) ?_
      exact h
  · replace h := h.2 q1
    refine Wq.aload_n (t := 20) (r := 9) (j := 0) dX5_does_27 rfl ?_
    refine Wq.iload_n (x := (m.1 9 26 0 (ix 1))) dX5_does_28 rfl ?_
    refine Wq.callVI (As := [pI (m.1 9 26 0 (ix 1))]) dX5_does_29 fX5_askFault ml_X5_109 rfl (by decide) rfl (Nat.le_of_ble_eq_true rfl) (Nat.le_of_ble_eq_true rfl) (suX5_askFault h.1) (fun x9 m9 e9 => ?_)
    obtain ⟨rfl, rfl⟩ := e9
    replace h := h.2
    refine Wq.goto (tgt := 88) dX5_does_32 (by decide) ?_
    exact h
set_option maxHeartbeats 4000000 in
set_option maxRecDepth 20000 in
theorem sgX5_does_61 {g : GG} {d : Nat} {c n : Nat} {m : PM} {Q : Ou → PM → Nat → Nat → Prop} {x1 : Int32} {x2 : Int32} {x3 : Int32} (h : Wp g (d + 5) MX5_testFault 0 [some (pO 20 9 0), some (pI x2)] [] m (cI fun r1 m2 => Wq g (d + 6) MX5_does c n 88 [some (pO 20 9 0), some (pI x1), some (pI x2), some (pI x3), none, none] [pI r1] m2 Q)) : Wq g (d + 6) MX5_does c n 61 [some (pO 20 9 0), some (pI x1), some (pI x2), some (pI x3), none, none] [] m Q := by
  refine Wq.aload_n (t := 20) (r := 9) (j := 0) dX5_does_61 rfl ?_
  refine Wq.iload_n (x := x2) dX5_does_62 rfl ?_
  refine Wq.callVI (As := [pI x2]) dX5_does_63 fX5_testFault ml_X5_133 rfl (by decide) rfl (Nat.le_of_ble_eq_true rfl) (Nat.le_of_ble_eq_true rfl) h (fun r1 m2 h => ?_)
  refine Wq.goto (tgt := 88) dX5_does_66 (by decide) ?_
  exact h
set_option maxHeartbeats 4000000 in
set_option maxRecDepth 20000 in
theorem sgX5_does_88 {g : GG} {d : Nat} {c n : Nat} {m : PM} {Q : Ou → PM → Nat → Nat → Prop} {x1 : Int32} {x2 : Int32} {x3 : Int32} {s0 : Int32} (h : ((¬ s0 = 0 → Wq g (d + 6) MX5_does c n 175 [none, none, none, none, some (pI s0), none] [] m Q) ∧ (s0 = 0 → ((¬ x1 = 97 → ((¬ x1 = 113 → ((x1 = 112 → Wq g (d + 6) MX5_does c n 135 [some (pO 20 9 0), some (pI x1), some (pI x2), none, some (pI s0), none] [] m Q) ∧ (¬ x1 = 112 → ((¬ x1 = 102 → ((¬ x1 = 105 → Wp g (d + 5) MX5_goesOn 0 [some (pO 20 9 0)] [] m (cI fun r7 m8 => Wq g (d + 6) MX5_does c n 173 [none, none, none, none, some (pI s0), none] [pI r7] m8 Q)) ∧ (x1 = 105 → Wp g (d + 5) MX5_cancels 0 [some (pO 20 9 0), some (pI x2), some (pI x3)] [] m (cI fun r9 m10 => Wq g (d + 6) MX5_does c n 173 [none, none, none, none, some (pI s0), none] [pI r9] m10 Q)))) ∧ (x1 = 102 → Wq g (d + 6) MX5_does c n 135 [some (pO 20 9 0), some (pI x1), some (pI x2), none, some (pI s0), none] [] m Q))))) ∧ (x1 = 113 → Wp g (d + 5) MX5_quits 0 [some (pO 20 9 0), some (pI x2)] [] m (cI fun r11 m12 => Wq g (d + 6) MX5_does c n 173 [none, none, none, none, some (pI s0), none] [pI r11] m12 Q)))) ∧ (x1 = 97 → Wp g (d + 5) MX5_asks 0 [some (pO 20 9 0), some (pI x2)] [] m (cI fun r13 m14 => Wq g (d + 6) MX5_does c n 173 [none, none, none, none, some (pI s0), none] [pI r13] m14 Q)))))) : Wq g (d + 6) MX5_does c n 88 [some (pO 20 9 0), some (pI x1), some (pI x2), some (pI x3), none, none] [pI s0] m Q := by
  refine Wq.istore (ls2 := [some (pO 20 9 0), some (pI x1), some (pI x2), some (pI x3), some (pI s0), none]) dX5_does_88 (by decide) rfl ?_
  refine Wq.iload (x := s0) dX5_does_90 rfl ?_
  refine Wq.ifne (tgt := 175) dX5_does_92 (by decide) (fun q1 => ?_) (fun q1 => ?_)
  · replace h := h.1 q1
    refine Wq.few (ls' := [none, none, none, none, some (pI s0), none]) ⟨rfl, trivial⟩ ?_
    exact h
  · replace h := h.2 q1
    refine Wq.iload_n (x := x1) dX5_does_95 rfl ?_
    refine Wq.bipush (v := 97) dX5_does_96 (by decide) ?_
    refine Wq.icmpne (tgt := 109) dX5_does_98 (by decide) (fun q2 => ?_) (fun q2 => ?_)
    · replace h := h.1 q2
      refine Wq.iload_n (x := x1) dX5_does_109 rfl ?_
      refine Wq.bipush (v := 113) dX5_does_110 (by decide) ?_
      refine Wq.icmpne (tgt := 123) dX5_does_112 (by decide) (fun q3 => ?_) (fun q3 => ?_)
      · replace h := h.1 q3
        refine Wq.iload_n (x := x1) dX5_does_123 rfl ?_
        refine Wq.bipush (v := 112) dX5_does_124 (by decide) ?_
        refine Wq.icmpeq (tgt := 135) dX5_does_126 (by decide) (fun q4 => ?_) (fun q4 => ?_)
        · replace h := h.1 q4
          refine Wq.few (ls' := [some (pO 20 9 0), some (pI x1), some (pI x2), none, some (pI s0), none]) ⟨rfl, ⟨rfl, ⟨rfl, ⟨rfl, trivial⟩⟩⟩⟩ ?_
          exact h
        · replace h := h.2 q4
          refine Wq.iload_n (x := x1) dX5_does_129 rfl ?_
          refine Wq.bipush (v := 102) dX5_does_130 (by decide) ?_
          refine Wq.icmpne (tgt := 154) dX5_does_132 (by decide) (fun q5 => ?_) (fun q5 => ?_)
          · replace h := h.1 q5
            refine Wq.iload_n (x := x1) dX5_does_154 rfl ?_
            refine Wq.bipush (v := 105) dX5_does_155 (by decide) ?_
            refine Wq.icmpne (tgt := 169) dX5_does_157 (by decide) (fun q6 => ?_) (fun q6 => ?_)
            · replace h := h.1 q6
              refine Wq.aload_n (t := 20) (r := 9) (j := 0) dX5_does_169 rfl ?_
              refine Wq.callVI (As := []) dX5_does_170 fX5_goesOn ml_X5_144 rfl (by decide) rfl (Nat.le_of_ble_eq_true rfl) (Nat.le_of_ble_eq_true rfl) h (fun r7 m8 h => ?_)
              refine Wq.few (ls' := [none, none, none, none, some (pI s0), none]) ⟨rfl, trivial⟩ ?_
              exact h
            · replace h := h.2 q6
              refine Wq.aload_n (t := 20) (r := 9) (j := 0) dX5_does_160 rfl ?_
              refine Wq.iload_n (x := x2) dX5_does_161 rfl ?_
              refine Wq.iload_n (x := x3) dX5_does_162 rfl ?_
              refine Wq.callVI (As := [pI x2, pI x3]) dX5_does_163 fX5_cancels ml_X5_127 rfl (by decide) rfl (Nat.le_of_ble_eq_true rfl) (Nat.le_of_ble_eq_true rfl) h (fun r9 m10 h => ?_)
              refine Wq.goto (tgt := 173) dX5_does_166 (by decide) ?_
              refine Wq.few (ls' := [none, none, none, none, some (pI s0), none]) ⟨rfl, trivial⟩ ?_
              exact h
          · replace h := h.2 q5
            refine Wq.few (ls' := [some (pO 20 9 0), some (pI x1), some (pI x2), none, some (pI s0), none]) ⟨rfl, ⟨rfl, ⟨rfl, ⟨rfl, trivial⟩⟩⟩⟩ ?_
            exact h
      · replace h := h.2 q3
        refine Wq.aload_n (t := 20) (r := 9) (j := 0) dX5_does_115 rfl ?_
        refine Wq.iload_n (x := x2) dX5_does_116 rfl ?_
        refine Wq.callVI (As := [pI x2]) dX5_does_117 fX5_quits ml_X5_118 rfl (by decide) rfl (Nat.le_of_ble_eq_true rfl) (Nat.le_of_ble_eq_true rfl) h (fun r11 m12 h => ?_)
        refine Wq.goto (tgt := 173) dX5_does_120 (by decide) ?_
        refine Wq.few (ls' := [none, none, none, none, some (pI s0), none]) ⟨rfl, trivial⟩ ?_
        exact h
    · replace h := h.2 q2
      refine Wq.aload_n (t := 20) (r := 9) (j := 0) dX5_does_101 rfl ?_
      refine Wq.iload_n (x := x2) dX5_does_102 rfl ?_
      refine Wq.callVI (As := [pI x2]) dX5_does_103 fX5_asks ml_X5_112 rfl (by decide) rfl (Nat.le_of_ble_eq_true rfl) (Nat.le_of_ble_eq_true rfl) h (fun r13 m14 h => ?_)
      refine Wq.goto (tgt := 173) dX5_does_106 (by decide) ?_
      refine Wq.few (ls' := [none, none, none, none, some (pI s0), none]) ⟨rfl, trivial⟩ ?_
      exact h
set_option maxHeartbeats 4000000 in
set_option maxRecDepth 20000 in
theorem sgX5_does_135 {g : GG} {d : Nat} {c n : Nat} {m : PM} {Q : Ou → PM → Nat → Nat → Prop} {x1 : Int32} {x2 : Int32} {x4 : Int32} (h : ((¬ x1 = 112 → Wq g (d + 6) MX5_does c n 148 [none, none, none, none, some (pI x4), none] [pI 0, pI x2, pO 20 9 0] m Q) ∧ (x1 = 112 → Wq g (d + 6) MX5_does c n 148 [none, none, none, none, some (pI x4), none] [pI 1, pI x2, pO 20 9 0] m Q))) : Wq g (d + 6) MX5_does c n 135 [some (pO 20 9 0), some (pI x1), some (pI x2), none, some (pI x4), none] [] m Q := by
  refine Wq.aload_n (t := 20) (r := 9) (j := 0) dX5_does_135 rfl ?_
  refine Wq.iload_n (x := x2) dX5_does_136 rfl ?_
  refine Wq.iload_n (x := x1) dX5_does_137 rfl ?_
  refine Wq.bipush (v := 112) dX5_does_138 (by decide) ?_
  refine Wq.icmpne (tgt := 147) dX5_does_140 (by decide) (fun q1 => ?_) (fun q1 => ?_)
  · replace h := h.1 q1
    refine Wq.iconst (v := 0) dX5_does_147 (by decide) ?_
    refine Wq.few (ls' := [none, none, none, none, some (pI x4), none]) ⟨rfl, trivial⟩ ?_
    exact h
  · replace h := h.2 q1
    refine Wq.iconst (v := 1) dX5_does_143 (by decide) ?_
    refine Wq.goto (tgt := 148) dX5_does_144 (by decide) ?_
    refine Wq.few (ls' := [none, none, none, none, some (pI x4), none]) ⟨rfl, trivial⟩ ?_
    exact h
set_option maxHeartbeats 4000000 in
set_option maxRecDepth 20000 in
theorem sgX5_does_148 {g : GG} {d : Nat} {c n : Nat} {m : PM} {Q : Ou → PM → Nat → Nat → Prop} {x4 : Int32} {s0 : Int32} {s1 : Int32} (h : Wp g (d + 5) MX5_tests 0 [some (pO 20 9 0), some (pI s1), some (pI s0)] [] m (cI fun r1 m2 => Wq g (d + 6) MX5_does c n 173 [none, none, none, none, some (pI x4), none] [pI r1] m2 Q)) : Wq g (d + 6) MX5_does c n 148 [none, none, none, none, some (pI x4), none] [pI s0, pI s1, pO 20 9 0] m Q := by
  refine Wq.callVI (As := [pI s1, pI s0]) dX5_does_148 fX5_tests ml_X5_136 rfl (by decide) rfl (Nat.le_of_ble_eq_true rfl) (Nat.le_of_ble_eq_true rfl) h (fun r1 m2 h => ?_)
  refine Wq.goto (tgt := 173) dX5_does_151 (by decide) ?_
  exact h
set_option maxHeartbeats 4000000 in
set_option maxRecDepth 20000 in
theorem sgX5_does_173 {g : GG} {d : Nat} {c n : Nat} {m : PM} {Q : Ou → PM → Nat → Nat → Prop} {x4 : Int32} {s0 : Int32} (h : Wq g (d + 6) MX5_does c n 175 [none, none, none, none, some (pI x4), none] [] m Q) : Wq g (d + 6) MX5_does c n 173 [none, none, none, none, some (pI x4), none] [pI s0] m Q := by
  refine Wq.istore (ls2 := [none, none, none, none, some (pI x4), some (pI s0)]) dX5_does_173 (by decide) rfl ?_
  refine Wq.few (ls' := [none, none, none, none, some (pI x4), none]) ⟨rfl, trivial⟩ ?_
  exact h
set_option maxHeartbeats 4000000 in
set_option maxRecDepth 20000 in
theorem sgX5_does_175 {g : GG} {d : Nat} {c n : Nat} {m : PM} {Q : Ou → PM → Nat → Nat → Prop} {x4 : Int32} (h : ((¬ x4 = 0 → Wq g (d + 6) MX5_does c n 185 [none, none, none, none, none, none] [pI 0] m Q) ∧ (x4 = 0 → Wq g (d + 6) MX5_does c n 185 [none, none, none, none, none, none] [pI 1] m Q))) : Wq g (d + 6) MX5_does c n 175 [none, none, none, none, some (pI x4), none] [] m Q := by
  refine Wq.iload (x := x4) dX5_does_175 rfl ?_
  refine Wq.ifne (tgt := 184) dX5_does_177 (by decide) (fun q1 => ?_) (fun q1 => ?_)
  · replace h := h.1 q1
    refine Wq.iconst (v := 0) dX5_does_184 (by decide) ?_
    refine Wq.few (ls' := [none, none, none, none, none, none]) trivial ?_
    exact h
  · replace h := h.2 q1
    refine Wq.iconst (v := 1) dX5_does_180 (by decide) ?_
    refine Wq.goto (tgt := 185) dX5_does_181 (by decide) ?_
    refine Wq.few (ls' := [none, none, none, none, none, none]) trivial ?_
    exact h
set_option maxHeartbeats 4000000 in
set_option maxRecDepth 20000 in
theorem sgX5_does_185 {g : GG} {d : Nat} {c n : Nat} {m : PM} {Q : Ou → PM → Nat → Nat → Prop} {s0 : Int32} (h : ((s0 = 0 ∨ s0 = 1) ∧ Q (.inl (some (pI s0))) m c n)) : Wq g (d + 6) MX5_does c n 185 [none, none, none, none, none, none] [pI s0] m Q := by
  exact Wq.iret dX5_does_185 (⟨_, rfl, z_narrow h.1⟩) h.2
set_option maxHeartbeats 4000000 in
set_option maxRecDepth 20000 in
theorem sgX5_cancelled {g : GG} {d : Nat} {c n : Nat} {m : PM} {Q : Ou → PM → Nat → Nat → Prop} {x1 : Int32} {x2 : Int32} {x3 : Int32} (h : (vp_in (((9 + (40 * x1)) + (4 * x2)) + (0 : Int32)) 341 ∧ (vp_in (((9 + (40 * x1)) + (4 * x2)) + (1 : Int32)) 341 ∧ Wq g (d + 6) MX5_cancelled c n 29 [some (pO 20 9 0), some (pI x1), some (pI x2), some (pI x3), some (pI (m.1 9 21 0 (ix (((9 + (40 * x1)) + (4 * x2)) + (0 : Int32))))), some (pI (m.1 9 21 0 (ix (((9 + (40 * x1)) + (4 * x2)) + (1 : Int32))))), some (pI 0), none, none, none, none, none] [] m Q))) : Wq g (d + 6) MX5_cancelled c n 0 [some (pO 20 9 0), some (pI x1), some (pI x2), some (pI x3)] [] m Q := by
  refine Wq.few (ls' := [some (pO 20 9 0), some (pI x1), some (pI x2), some (pI x3), none, none, none, none, none, none, none, none]) ⟨rfl, ⟨rfl, ⟨rfl, ⟨rfl, trivial⟩⟩⟩⟩ ?_
  refine Wq.aload_n (t := 20) (r := 9) (j := 0) dX5_cancelled_0 rfl ?_
  refine Wq.getf (v := pO 21 9 0) dX5_cancelled_1 fl_X5_7 ⟨rfl, rfl, by decide⟩ rfl ?_
  refine Wq.iload_n (x := x1) dX5_cancelled_4 rfl ?_
  refine Wq.iload_n (x := x2) dX5_cancelled_5 rfl ?_
  refine Wq.iconst (v := 0) dX5_cancelled_6 (by decide) ?_
  refine Wq.callSI (As := [pI x1, pI x2, pI 0]) dX5_cancelled_7 fX5_at ml_X5_62 rfl (Nat.le_of_ble_eq_true rfl) (Nat.le_of_ble_eq_true rfl) (suX5_at trivial) (fun x2 m9 e9 => ?_)
  obtain ⟨rfl, rfl⟩ := e9
  refine Wq.iald dX5_cancelled_10 rfl h.1 ?_
  replace h := h.2
  refine Wq.istore (ls2 := [some (pO 20 9 0), some (pI x1), some (pI x2), some (pI x3), some (pI (m.1 9 21 0 (ix (((9 + (40 * x1)) + (4 * x2)) + (0 : Int32))))), none, none, none, none, none, none, none]) dX5_cancelled_11 (by decide) rfl ?_
  refine Wq.aload_n (t := 20) (r := 9) (j := 0) dX5_cancelled_13 rfl ?_
  refine Wq.getf (v := pO 21 9 0) dX5_cancelled_14 fl_X5_7 ⟨rfl, rfl, by decide⟩ rfl ?_
  refine Wq.iload_n (x := x1) dX5_cancelled_17 rfl ?_
  refine Wq.iload_n (x := x2) dX5_cancelled_18 rfl ?_
  refine Wq.iconst (v := 1) dX5_cancelled_19 (by decide) ?_
  refine Wq.callSI (As := [pI x1, pI x2, pI 1]) dX5_cancelled_20 fX5_at ml_X5_62 rfl (Nat.le_of_ble_eq_true rfl) (Nat.le_of_ble_eq_true rfl) (suX5_at trivial) (fun x1 m9 e9 => ?_)
  obtain ⟨rfl, rfl⟩ := e9
  refine Wq.iald dX5_cancelled_23 rfl h.1 ?_
  replace h := h.2
  refine Wq.istore (ls2 := [some (pO 20 9 0), some (pI x1), some (pI x2), some (pI x3), some (pI (m.1 9 21 0 (ix (((9 + (40 * x1)) + (4 * x2)) + (0 : Int32))))), some (pI (m.1 9 21 0 (ix (((9 + (40 * x1)) + (4 * x2)) + (1 : Int32))))), none, none, none, none, none, none]) dX5_cancelled_24 (by decide) rfl ?_
  refine Wq.iconst (v := 0) dX5_cancelled_26 (by decide) ?_
  refine Wq.istore (ls2 := [some (pO 20 9 0), some (pI x1), some (pI x2), some (pI x3), some (pI (m.1 9 21 0 (ix (((9 + (40 * x1)) + (4 * x2)) + (0 : Int32))))), some (pI (m.1 9 21 0 (ix (((9 + (40 * x1)) + (4 * x2)) + (1 : Int32))))), some (pI 0), none, none, none, none, none]) dX5_cancelled_27 (by decide) rfl ?_
  exact h
set_option maxHeartbeats 4000000 in
set_option maxRecDepth 20000 in
theorem sgX5_cancelled_29 {g : GG} {d : Nat} {c n : Nat} {m : PM} {Q : Ou → PM → Nat → Nat → Prop} {x1 : Int32} {x2 : Int32} {x3 : Int32} {x4 : Int32} {x5 : Int32} {x6 : Int32} (h : ((341 ≤ x6 → Wp g (d + 5) MX5_cancels 0 [some (pO 20 9 0), some (pI x1), some (pI x2)] [] m (cI fun r2 m3 => Wq g (d + 6) MX5_cancelled c n 76 [some (pO 20 9 0), none, some (pI x2), some (pI x3), some (pI x4), some (pI x5), some (pI r2), some (pI 0), some (pI 1000), some (pI 0), none, none] [] m3 Q)) ∧ (¬ 341 ≤ x6 → (vp_in x6 341 ∧ (vp_in x6 341 ∧ Wq g (d + 6) MX5_cancelled c n 29 [some (pO 20 9 0), some (pI x1), some (pI x2), some (pI x3), some (pI x4), some (pI x5), some (pI (x6 + 1)), none, none, none, none, none] [] (setI m 22 9 0 (ix x6) (m.1 9 21 0 (ix x6))) Q))))) : Wq g (d + 6) MX5_cancelled c n 29 [some (pO 20 9 0), some (pI x1), some (pI x2), some (pI x3), some (pI x4), some (pI x5), some (pI x6), none, none, none, none, none] [] m Q := by
  refine Wq.iload (x := x6) dX5_cancelled_29 rfl ?_
  refine Wq.sipush (v := 341) dX5_cancelled_31 (by decide) ?_
  refine Wq.icmpge (tgt := 57) dX5_cancelled_34 (by decide) (fun q1 => ?_) (fun q1 => ?_)
  · replace h := h.1 q1
    refine Wq.aload_n (t := 20) (r := 9) (j := 0) dX5_cancelled_57 rfl ?_
    refine Wq.iload_n (x := x1) dX5_cancelled_58 rfl ?_
    refine Wq.iload_n (x := x2) dX5_cancelled_59 rfl ?_
    refine Wq.callVI (As := [pI x1, pI x2]) dX5_cancelled_60 fX5_cancels ml_X5_127 rfl (by decide) rfl (Nat.le_of_ble_eq_true rfl) (Nat.le_of_ble_eq_true rfl) h (fun r2 m3 h => ?_)
    refine Wq.istore (ls2 := [some (pO 20 9 0), some (pI x1), some (pI x2), some (pI x3), some (pI x4), some (pI x5), some (pI r2), none, none, none, none, none]) dX5_cancelled_63 (by decide) rfl ?_
    refine Wq.iconst (v := 0) dX5_cancelled_65 (by decide) ?_
    refine Wq.istore (ls2 := [some (pO 20 9 0), some (pI x1), some (pI x2), some (pI x3), some (pI x4), some (pI x5), some (pI r2), some (pI 0), none, none, none, none]) dX5_cancelled_66 (by decide) rfl ?_
    refine Wq.sipush (v := 1000) dX5_cancelled_68 (by decide) ?_
    refine Wq.istore (ls2 := [some (pO 20 9 0), some (pI x1), some (pI x2), some (pI x3), some (pI x4), some (pI x5), some (pI r2), some (pI 0), some (pI 1000), none, none, none]) dX5_cancelled_71 (by decide) rfl ?_
    refine Wq.iconst (v := 0) dX5_cancelled_73 (by decide) ?_
    refine Wq.istore (ls2 := [some (pO 20 9 0), some (pI x1), some (pI x2), some (pI x3), some (pI x4), some (pI x5), some (pI r2), some (pI 0), some (pI 1000), some (pI 0), none, none]) dX5_cancelled_74 (by decide) rfl ?_
    refine Wq.few (ls' := [some (pO 20 9 0), none, some (pI x2), some (pI x3), some (pI x4), some (pI x5), some (pI r2), some (pI 0), some (pI 1000), some (pI 0), none, none]) ⟨rfl, ⟨rfl, ⟨rfl, ⟨rfl, ⟨rfl, ⟨rfl, ⟨rfl, ⟨rfl, ⟨rfl, trivial⟩⟩⟩⟩⟩⟩⟩⟩⟩ ?_
    exact h
  · replace h := h.2 q1
    refine Wq.aload_n (t := 20) (r := 9) (j := 0) dX5_cancelled_37 rfl ?_
    refine Wq.getf (v := pO 22 9 0) dX5_cancelled_38 fl_X5_13 ⟨rfl, rfl, by decide⟩ rfl ?_
    refine Wq.iload (x := x6) dX5_cancelled_41 rfl ?_
    refine Wq.aload_n (t := 20) (r := 9) (j := 0) dX5_cancelled_43 rfl ?_
    refine Wq.getf (v := pO 21 9 0) dX5_cancelled_44 fl_X5_7 ⟨rfl, rfl, by decide⟩ rfl ?_
    refine Wq.iload (x := x6) dX5_cancelled_47 rfl ?_
    refine Wq.iald dX5_cancelled_49 rfl h.1 ?_
    replace h := h.2
    refine Wq.iast dX5_cancelled_50 rfl h.1 ?_
    replace h := h.2
    refine Wq.iinc (x := x6) (ls2 := [some (pO 20 9 0), some (pI x1), some (pI x2), some (pI x3), some (pI x4), some (pI x5), some (pI (x6 + 1)), none, none, none, none, none]) dX5_cancelled_51 rfl (by decide) rfl ?_
    refine Wq.goto (tgt := 29) dX5_cancelled_54 (by decide) ?_
    exact h
set_option maxHeartbeats 4000000 in
set_option maxRecDepth 20000 in
theorem sgX5_cancelled_76 {g : GG} {d : Nat} {c n : Nat} {m : PM} {Q : Ou → PM → Nat → Nat → Prop} {x2 : Int32} {x3 : Int32} {x4 : Int32} {x5 : Int32} {x6 : Int32} {x7 : Int32} {x8 : Int32} {x9 : Int32} (h : ((2 ≤ x9 → Wq g (d + 6) MX5_cancelled c n 165 [some (pO 20 9 0), none, none, some (pI x3), none, none, some (pI x6), some (pI x7), some (pI x8), some (pI 0), none, none] [] m Q) ∧ (¬ 2 ≤ x9 → ((¬ x9 = 0 → ((0 ≤ x5 → Wp g (d + 5) MX5_slotBy 0 [some (pO 20 9 0), some (pI x5)] [] m (cI fun r4 m5 => ((x5 < 0 → ((¬ r4 = (-1) → Wq g (d + 6) MX5_cancelled c n 76 [some (pO 20 9 0), none, some (pI x2), some (pI x3), some (pI x4), some (pI x5), some (pI x6), some (pI (x7 + 0)), some (pI (x8 + ((r4 / 16) - x2))), some (pI (x9 + 1)), none, none] [] m5 Q) ∧ (r4 = (-1) → Wq g (d + 6) MX5_cancelled c n 76 [some (pO 20 9 0), none, some (pI x2), some (pI x3), some (pI x4), some (pI x5), some (pI x6), some (pI (x7 + 0)), some (pI (x8 + 0)), some (pI (x9 + 1)), none, none] [] m5 Q))) ∧ (¬ x5 < 0 → ((¬ r4 = (-1) → ((¬ r4 = (-1) → Wq g (d + 6) MX5_cancelled c n 76 [some (pO 20 9 0), none, some (pI x2), some (pI x3), some (pI x4), some (pI x5), some (pI x6), some (pI (x7 + 0)), some (pI (x8 + ((r4 / 16) - x2))), some (pI (x9 + 1)), none, none] [] m5 Q) ∧ (r4 = (-1) → Wq g (d + 6) MX5_cancelled c n 76 [some (pO 20 9 0), none, some (pI x2), some (pI x3), some (pI x4), some (pI x5), some (pI x6), some (pI (x7 + 0)), some (pI (x8 + 0)), some (pI (x9 + 1)), none, none] [] m5 Q))) ∧ (r4 = (-1) → ((¬ r4 = (-1) → Wq g (d + 6) MX5_cancelled c n 76 [some (pO 20 9 0), none, some (pI x2), some (pI x3), some (pI x4), some (pI x5), some (pI x6), some (pI (x7 + 1)), some (pI (x8 + ((r4 / 16) - x2))), some (pI (x9 + 1)), none, none] [] m5 Q) ∧ (r4 = (-1) → Wq g (d + 6) MX5_cancelled c n 76 [some (pO 20 9 0), none, some (pI x2), some (pI x3), some (pI x4), some (pI x5), some (pI x6), some (pI (x7 + 1)), some (pI (x8 + 0)), some (pI (x9 + 1)), none, none] [] m5 Q)))))))) ∧ (¬ 0 ≤ x5 → ((x5 < 0 → Wq g (d + 6) MX5_cancelled c n 76 [some (pO 20 9 0), none, some (pI x2), some (pI x3), some (pI x4), some (pI x5), some (pI x6), some (pI (x7 + 0)), some (pI (x8 + 0)), some (pI (x9 + 1)), none, none] [] m Q) ∧ (¬ x5 < 0 → Wq g (d + 6) MX5_cancelled c n 76 [some (pO 20 9 0), none, some (pI x2), some (pI x3), some (pI x4), some (pI x5), some (pI x6), some (pI (x7 + 1)), some (pI (x8 + 0)), some (pI (x9 + 1)), none, none] [] m Q))))) ∧ (x9 = 0 → ((0 ≤ x4 → Wp g (d + 5) MX5_slotBy 0 [some (pO 20 9 0), some (pI x4)] [] m (cI fun r16 m17 => ((x4 < 0 → ((¬ r16 = (-1) → Wq g (d + 6) MX5_cancelled c n 76 [some (pO 20 9 0), none, some (pI x2), some (pI x3), some (pI x4), some (pI x5), some (pI x6), some (pI (x7 + 0)), some (pI (x8 + ((r16 / 16) - x2))), some (pI (x9 + 1)), none, none] [] m17 Q) ∧ (r16 = (-1) → Wq g (d + 6) MX5_cancelled c n 76 [some (pO 20 9 0), none, some (pI x2), some (pI x3), some (pI x4), some (pI x5), some (pI x6), some (pI (x7 + 0)), some (pI (x8 + 0)), some (pI (x9 + 1)), none, none] [] m17 Q))) ∧ (¬ x4 < 0 → ((¬ r16 = (-1) → ((¬ r16 = (-1) → Wq g (d + 6) MX5_cancelled c n 76 [some (pO 20 9 0), none, some (pI x2), some (pI x3), some (pI x4), some (pI x5), some (pI x6), some (pI (x7 + 0)), some (pI (x8 + ((r16 / 16) - x2))), some (pI (x9 + 1)), none, none] [] m17 Q) ∧ (r16 = (-1) → Wq g (d + 6) MX5_cancelled c n 76 [some (pO 20 9 0), none, some (pI x2), some (pI x3), some (pI x4), some (pI x5), some (pI x6), some (pI (x7 + 0)), some (pI (x8 + 0)), some (pI (x9 + 1)), none, none] [] m17 Q))) ∧ (r16 = (-1) → ((¬ r16 = (-1) → Wq g (d + 6) MX5_cancelled c n 76 [some (pO 20 9 0), none, some (pI x2), some (pI x3), some (pI x4), some (pI x5), some (pI x6), some (pI (x7 + 1)), some (pI (x8 + ((r16 / 16) - x2))), some (pI (x9 + 1)), none, none] [] m17 Q) ∧ (r16 = (-1) → Wq g (d + 6) MX5_cancelled c n 76 [some (pO 20 9 0), none, some (pI x2), some (pI x3), some (pI x4), some (pI x5), some (pI x6), some (pI (x7 + 1)), some (pI (x8 + 0)), some (pI (x9 + 1)), none, none] [] m17 Q)))))))) ∧ (¬ 0 ≤ x4 → ((x4 < 0 → Wq g (d + 6) MX5_cancelled c n 76 [some (pO 20 9 0), none, some (pI x2), some (pI x3), some (pI x4), some (pI x5), some (pI x6), some (pI (x7 + 0)), some (pI (x8 + 0)), some (pI (x9 + 1)), none, none] [] m Q) ∧ (¬ x4 < 0 → Wq g (d + 6) MX5_cancelled c n 76 [some (pO 20 9 0), none, some (pI x2), some (pI x3), some (pI x4), some (pI x5), some (pI x6), some (pI (x7 + 1)), some (pI (x8 + 0)), some (pI (x9 + 1)), none, none] [] m Q))))))))) : Wq g (d + 6) MX5_cancelled c n 76 [some (pO 20 9 0), none, some (pI x2), some (pI x3), some (pI x4), some (pI x5), some (pI x6), some (pI x7), some (pI x8), some (pI x9), none, none] [] m Q := by
  refine Wq.iload (x := x9) dX5_cancelled_76 rfl ?_
  refine Wq.iconst (v := 2) dX5_cancelled_78 (by decide) ?_
  refine Wq.icmpge (tgt := 162) dX5_cancelled_79 (by decide) (fun q1 => ?_) (fun q1 => ?_)
  · replace h := h.1 q1
    refine Wq.iconst (v := 0) dX5_cancelled_162 (by decide) ?_
    refine Wq.istore (ls2 := [some (pO 20 9 0), none, some (pI x2), some (pI x3), some (pI x4), some (pI x5), some (pI x6), some (pI x7), some (pI x8), some (pI 0), none, none]) dX5_cancelled_163 (by decide) rfl ?_
    refine Wq.few (ls' := [some (pO 20 9 0), none, none, some (pI x3), none, none, some (pI x6), some (pI x7), some (pI x8), some (pI 0), none, none]) ⟨rfl, ⟨rfl, ⟨rfl, ⟨rfl, ⟨rfl, ⟨rfl, trivial⟩⟩⟩⟩⟩⟩ ?_
    exact h
  · replace h := h.2 q1
    refine Wq.iload (x := x9) dX5_cancelled_82 rfl ?_
    refine Wq.ifne (tgt := 92) dX5_cancelled_84 (by decide) (fun q2 => ?_) (fun q2 => ?_)
    · replace h := h.1 q2
      refine Wq.iload (x := x5) dX5_cancelled_92 rfl ?_
      refine Wq.istore (ls2 := [some (pO 20 9 0), none, some (pI x2), some (pI x3), some (pI x4), some (pI x5), some (pI x6), some (pI x7), some (pI x8), some (pI x9), some (pI x5), none]) dX5_cancelled_94 (by decide) rfl ?_
      refine Wq.iload (x := x5) dX5_cancelled_96 rfl ?_
      refine Wq.ifge (tgt := 105) dX5_cancelled_98 (by decide) (fun q3 => ?_) (fun q3 => ?_)
      · replace h := h.1 q3
        refine Wq.aload_n (t := 20) (r := 9) (j := 0) dX5_cancelled_105 rfl ?_
        refine Wq.iload (x := x5) dX5_cancelled_106 rfl ?_
        refine Wq.callVI (As := [pI x5]) dX5_cancelled_108 fX5_slotBy ml_X5_106 rfl (by decide) rfl (Nat.le_of_ble_eq_true rfl) (Nat.le_of_ble_eq_true rfl) h (fun r4 m5 h => ?_)
        refine Wq.istore (ls2 := [some (pO 20 9 0), none, some (pI x2), some (pI x3), some (pI x4), some (pI x5), some (pI x6), some (pI x7), some (pI x8), some (pI x9), some (pI x5), some (pI r4)]) dX5_cancelled_111 (by decide) rfl ?_
        refine Wq.iload (x := x7) dX5_cancelled_113 rfl ?_
        refine Wq.iload (x := x5) dX5_cancelled_115 rfl ?_
        refine Wq.iflt (tgt := 130) dX5_cancelled_117 (by decide) (fun q6 => ?_) (fun q6 => ?_)
        · replace h := h.1 q6
          refine Wq.iconst (v := 0) dX5_cancelled_130 (by decide) ?_
          refine Wq.iadd dX5_cancelled_131 ?_
          refine Wq.istore (ls2 := [some (pO 20 9 0), none, some (pI x2), some (pI x3), some (pI x4), some (pI x5), some (pI x6), some (pI (x7 + 0)), some (pI x8), some (pI x9), some (pI x5), some (pI r4)]) dX5_cancelled_132 (by decide) rfl ?_
          refine Wq.iload (x := x8) dX5_cancelled_134 rfl ?_
          refine Wq.iload (x := r4) dX5_cancelled_136 rfl ?_
          refine Wq.iconst (v := (-1)) dX5_cancelled_138 (by decide) ?_
          refine Wq.icmpne (tgt := 146) dX5_cancelled_139 (by decide) (fun q7 => ?_) (fun q7 => ?_)
          · replace h := h.1 q7
            refine Wq.iload (x := r4) dX5_cancelled_146 rfl ?_
            refine Wq.callSI (As := [pI r4]) dX5_cancelled_148 fX5_dayOf ml_X5_56 rfl (Nat.le_of_ble_eq_true rfl) (Nat.le_of_ble_eq_true rfl) (suX5_dayOf trivial) (fun x8 m9 e9 => ?_)
            obtain ⟨rfl, rfl⟩ := e9
            refine Wq.iload_n (x := x2) dX5_cancelled_151 rfl ?_
            refine Wq.isub dX5_cancelled_152 ?_
            refine Wq.iadd dX5_cancelled_153 ?_
            refine Wq.istore (ls2 := [some (pO 20 9 0), none, some (pI x2), some (pI x3), some (pI x4), some (pI x5), some (pI x6), some (pI (x7 + 0)), some (pI (x8 + ((r4 / 16) - x2))), some (pI x9), some (pI x5), some (pI r4)]) dX5_cancelled_154 (by decide) rfl ?_
            refine Wq.iinc (x := x9) (ls2 := [some (pO 20 9 0), none, some (pI x2), some (pI x3), some (pI x4), some (pI x5), some (pI x6), some (pI (x7 + 0)), some (pI (x8 + ((r4 / 16) - x2))), some (pI (x9 + 1)), some (pI x5), some (pI r4)]) dX5_cancelled_156 rfl (by decide) rfl ?_
            refine Wq.goto (tgt := 76) dX5_cancelled_159 (by decide) ?_
            refine Wq.few (ls' := [some (pO 20 9 0), none, some (pI x2), some (pI x3), some (pI x4), some (pI x5), some (pI x6), some (pI (x7 + 0)), some (pI (x8 + ((r4 / 16) - x2))), some (pI (x9 + 1)), none, none]) ⟨rfl, ⟨rfl, ⟨rfl, ⟨rfl, ⟨rfl, ⟨rfl, ⟨rfl, ⟨rfl, ⟨rfl, trivial⟩⟩⟩⟩⟩⟩⟩⟩⟩ ?_
            exact h
          · replace h := h.2 q7
            refine Wq.iconst (v := 0) dX5_cancelled_142 (by decide) ?_
            refine Wq.goto (tgt := 153) dX5_cancelled_143 (by decide) ?_
            refine Wq.iadd dX5_cancelled_153 ?_
            refine Wq.istore (ls2 := [some (pO 20 9 0), none, some (pI x2), some (pI x3), some (pI x4), some (pI x5), some (pI x6), some (pI (x7 + 0)), some (pI (x8 + 0)), some (pI x9), some (pI x5), some (pI r4)]) dX5_cancelled_154 (by decide) rfl ?_
            refine Wq.iinc (x := x9) (ls2 := [some (pO 20 9 0), none, some (pI x2), some (pI x3), some (pI x4), some (pI x5), some (pI x6), some (pI (x7 + 0)), some (pI (x8 + 0)), some (pI (x9 + 1)), some (pI x5), some (pI r4)]) dX5_cancelled_156 rfl (by decide) rfl ?_
            refine Wq.goto (tgt := 76) dX5_cancelled_159 (by decide) ?_
            refine Wq.few (ls' := [some (pO 20 9 0), none, some (pI x2), some (pI x3), some (pI x4), some (pI x5), some (pI x6), some (pI (x7 + 0)), some (pI (x8 + 0)), some (pI (x9 + 1)), none, none]) ⟨rfl, ⟨rfl, ⟨rfl, ⟨rfl, ⟨rfl, ⟨rfl, ⟨rfl, ⟨rfl, ⟨rfl, trivial⟩⟩⟩⟩⟩⟩⟩⟩⟩ ?_
            exact h
        · replace h := h.2 q6
          refine Wq.iload (x := r4) dX5_cancelled_120 rfl ?_
          refine Wq.iconst (v := (-1)) dX5_cancelled_122 (by decide) ?_
          refine Wq.icmpne (tgt := 130) dX5_cancelled_123 (by decide) (fun q9 => ?_) (fun q9 => ?_)
          · replace h := h.1 q9
            refine Wq.iconst (v := 0) dX5_cancelled_130 (by decide) ?_
            refine Wq.iadd dX5_cancelled_131 ?_
            refine Wq.istore (ls2 := [some (pO 20 9 0), none, some (pI x2), some (pI x3), some (pI x4), some (pI x5), some (pI x6), some (pI (x7 + 0)), some (pI x8), some (pI x9), some (pI x5), some (pI r4)]) dX5_cancelled_132 (by decide) rfl ?_
            refine Wq.iload (x := x8) dX5_cancelled_134 rfl ?_
            refine Wq.iload (x := r4) dX5_cancelled_136 rfl ?_
            refine Wq.iconst (v := (-1)) dX5_cancelled_138 (by decide) ?_
            refine Wq.icmpne (tgt := 146) dX5_cancelled_139 (by decide) (fun q10 => ?_) (fun q10 => ?_)
            · replace h := h.1 q10
              refine Wq.iload (x := r4) dX5_cancelled_146 rfl ?_
              refine Wq.callSI (As := [pI r4]) dX5_cancelled_148 fX5_dayOf ml_X5_56 rfl (Nat.le_of_ble_eq_true rfl) (Nat.le_of_ble_eq_true rfl) (suX5_dayOf trivial) (fun x11 m9 e9 => ?_)
              obtain ⟨rfl, rfl⟩ := e9
              refine Wq.iload_n (x := x2) dX5_cancelled_151 rfl ?_
              refine Wq.isub dX5_cancelled_152 ?_
              refine Wq.iadd dX5_cancelled_153 ?_
              refine Wq.istore (ls2 := [some (pO 20 9 0), none, some (pI x2), some (pI x3), some (pI x4), some (pI x5), some (pI x6), some (pI (x7 + 0)), some (pI (x8 + ((r4 / 16) - x2))), some (pI x9), some (pI x5), some (pI r4)]) dX5_cancelled_154 (by decide) rfl ?_
              refine Wq.iinc (x := x9) (ls2 := [some (pO 20 9 0), none, some (pI x2), some (pI x3), some (pI x4), some (pI x5), some (pI x6), some (pI (x7 + 0)), some (pI (x8 + ((r4 / 16) - x2))), some (pI (x9 + 1)), some (pI x5), some (pI r4)]) dX5_cancelled_156 rfl (by decide) rfl ?_
              refine Wq.goto (tgt := 76) dX5_cancelled_159 (by decide) ?_
              refine Wq.few (ls' := [some (pO 20 9 0), none, some (pI x2), some (pI x3), some (pI x4), some (pI x5), some (pI x6), some (pI (x7 + 0)), some (pI (x8 + ((r4 / 16) - x2))), some (pI (x9 + 1)), none, none]) ⟨rfl, ⟨rfl, ⟨rfl, ⟨rfl, ⟨rfl, ⟨rfl, ⟨rfl, ⟨rfl, ⟨rfl, trivial⟩⟩⟩⟩⟩⟩⟩⟩⟩ ?_
              exact h
            · replace h := h.2 q10
              refine Wq.iconst (v := 0) dX5_cancelled_142 (by decide) ?_
              refine Wq.goto (tgt := 153) dX5_cancelled_143 (by decide) ?_
              refine Wq.iadd dX5_cancelled_153 ?_
              refine Wq.istore (ls2 := [some (pO 20 9 0), none, some (pI x2), some (pI x3), some (pI x4), some (pI x5), some (pI x6), some (pI (x7 + 0)), some (pI (x8 + 0)), some (pI x9), some (pI x5), some (pI r4)]) dX5_cancelled_154 (by decide) rfl ?_
              refine Wq.iinc (x := x9) (ls2 := [some (pO 20 9 0), none, some (pI x2), some (pI x3), some (pI x4), some (pI x5), some (pI x6), some (pI (x7 + 0)), some (pI (x8 + 0)), some (pI (x9 + 1)), some (pI x5), some (pI r4)]) dX5_cancelled_156 rfl (by decide) rfl ?_
              refine Wq.goto (tgt := 76) dX5_cancelled_159 (by decide) ?_
              refine Wq.few (ls' := [some (pO 20 9 0), none, some (pI x2), some (pI x3), some (pI x4), some (pI x5), some (pI x6), some (pI (x7 + 0)), some (pI (x8 + 0)), some (pI (x9 + 1)), none, none]) ⟨rfl, ⟨rfl, ⟨rfl, ⟨rfl, ⟨rfl, ⟨rfl, ⟨rfl, ⟨rfl, ⟨rfl, trivial⟩⟩⟩⟩⟩⟩⟩⟩⟩ ?_
              exact h
          · replace h := h.2 q9
            refine Wq.iconst (v := 1) dX5_cancelled_126 (by decide) ?_
            refine Wq.goto (tgt := 131) dX5_cancelled_127 (by decide) ?_
            refine Wq.iadd dX5_cancelled_131 ?_
            refine Wq.istore (ls2 := [some (pO 20 9 0), none, some (pI x2), some (pI x3), some (pI x4), some (pI x5), some (pI x6), some (pI (x7 + 1)), some (pI x8), some (pI x9), some (pI x5), some (pI r4)]) dX5_cancelled_132 (by decide) rfl ?_
            refine Wq.iload (x := x8) dX5_cancelled_134 rfl ?_
            refine Wq.iload (x := r4) dX5_cancelled_136 rfl ?_
            refine Wq.iconst (v := (-1)) dX5_cancelled_138 (by decide) ?_
            refine Wq.icmpne (tgt := 146) dX5_cancelled_139 (by decide) (fun q12 => ?_) (fun q12 => ?_)
            · replace h := h.1 q12
              refine Wq.iload (x := r4) dX5_cancelled_146 rfl ?_
              refine Wq.callSI (As := [pI r4]) dX5_cancelled_148 fX5_dayOf ml_X5_56 rfl (Nat.le_of_ble_eq_true rfl) (Nat.le_of_ble_eq_true rfl) (suX5_dayOf trivial) (fun x13 m9 e9 => ?_)
              obtain ⟨rfl, rfl⟩ := e9
              refine Wq.iload_n (x := x2) dX5_cancelled_151 rfl ?_
              refine Wq.isub dX5_cancelled_152 ?_
              refine Wq.iadd dX5_cancelled_153 ?_
              refine Wq.istore (ls2 := [some (pO 20 9 0), none, some (pI x2), some (pI x3), some (pI x4), some (pI x5), some (pI x6), some (pI (x7 + 1)), some (pI (x8 + ((r4 / 16) - x2))), some (pI x9), some (pI x5), some (pI r4)]) dX5_cancelled_154 (by decide) rfl ?_
              refine Wq.iinc (x := x9) (ls2 := [some (pO 20 9 0), none, some (pI x2), some (pI x3), some (pI x4), some (pI x5), some (pI x6), some (pI (x7 + 1)), some (pI (x8 + ((r4 / 16) - x2))), some (pI (x9 + 1)), some (pI x5), some (pI r4)]) dX5_cancelled_156 rfl (by decide) rfl ?_
              refine Wq.goto (tgt := 76) dX5_cancelled_159 (by decide) ?_
              refine Wq.few (ls' := [some (pO 20 9 0), none, some (pI x2), some (pI x3), some (pI x4), some (pI x5), some (pI x6), some (pI (x7 + 1)), some (pI (x8 + ((r4 / 16) - x2))), some (pI (x9 + 1)), none, none]) ⟨rfl, ⟨rfl, ⟨rfl, ⟨rfl, ⟨rfl, ⟨rfl, ⟨rfl, ⟨rfl, ⟨rfl, trivial⟩⟩⟩⟩⟩⟩⟩⟩⟩ ?_
              exact h
            · replace h := h.2 q12
              refine Wq.iconst (v := 0) dX5_cancelled_142 (by decide) ?_
              refine Wq.goto (tgt := 153) dX5_cancelled_143 (by decide) ?_
              refine Wq.iadd dX5_cancelled_153 ?_
              refine Wq.istore (ls2 := [some (pO 20 9 0), none, some (pI x2), some (pI x3), some (pI x4), some (pI x5), some (pI x6), some (pI (x7 + 1)), some (pI (x8 + 0)), some (pI x9), some (pI x5), some (pI r4)]) dX5_cancelled_154 (by decide) rfl ?_
              refine Wq.iinc (x := x9) (ls2 := [some (pO 20 9 0), none, some (pI x2), some (pI x3), some (pI x4), some (pI x5), some (pI x6), some (pI (x7 + 1)), some (pI (x8 + 0)), some (pI (x9 + 1)), some (pI x5), some (pI r4)]) dX5_cancelled_156 rfl (by decide) rfl ?_
              refine Wq.goto (tgt := 76) dX5_cancelled_159 (by decide) ?_
              refine Wq.few (ls' := [some (pO 20 9 0), none, some (pI x2), some (pI x3), some (pI x4), some (pI x5), some (pI x6), some (pI (x7 + 1)), some (pI (x8 + 0)), some (pI (x9 + 1)), none, none]) ⟨rfl, ⟨rfl, ⟨rfl, ⟨rfl, ⟨rfl, ⟨rfl, ⟨rfl, ⟨rfl, ⟨rfl, trivial⟩⟩⟩⟩⟩⟩⟩⟩⟩ ?_
              exact h
      · replace h := h.2 q3
        refine Wq.iconst (v := (-1)) dX5_cancelled_101 (by decide) ?_
        refine Wq.goto (tgt := 111) dX5_cancelled_102 (by decide) ?_
        refine Wq.istore (ls2 := [some (pO 20 9 0), none, some (pI x2), some (pI x3), some (pI x4), some (pI x5), some (pI x6), some (pI x7), some (pI x8), some (pI x9), some (pI x5), some (pI (-1))]) dX5_cancelled_111 (by decide) rfl ?_
        refine Wq.iload (x := x7) dX5_cancelled_113 rfl ?_
        refine Wq.iload (x := x5) dX5_cancelled_115 rfl ?_
        refine Wq.iflt (tgt := 130) dX5_cancelled_117 (by decide) (fun q14 => ?_) (fun q14 => ?_)
        · replace h := h.1 q14
          refine Wq.iconst (v := 0) dX5_cancelled_130 (by decide) ?_
          refine Wq.iadd dX5_cancelled_131 ?_
          refine Wq.istore (ls2 := [some (pO 20 9 0), none, some (pI x2), some (pI x3), some (pI x4), some (pI x5), some (pI x6), some (pI (x7 + 0)), some (pI x8), some (pI x9), some (pI x5), some (pI (-1))]) dX5_cancelled_132 (by decide) rfl ?_
          refine Wq.iload (x := x8) dX5_cancelled_134 rfl ?_
          refine Wq.iload (x := (-1)) dX5_cancelled_136 rfl ?_
          refine Wq.iconst (v := (-1)) dX5_cancelled_138 (by decide) ?_
          refine Wq.icmpne (tgt := 146) dX5_cancelled_139 (by decide) (fun q9 => absurd q9 (by decide)) (fun _ => ?_)
          refine Wq.iconst (v := 0) dX5_cancelled_142 (by decide) ?_
          refine Wq.goto (tgt := 153) dX5_cancelled_143 (by decide) ?_
          refine Wq.iadd dX5_cancelled_153 ?_
          refine Wq.istore (ls2 := [some (pO 20 9 0), none, some (pI x2), some (pI x3), some (pI x4), some (pI x5), some (pI x6), some (pI (x7 + 0)), some (pI (x8 + 0)), some (pI x9), some (pI x5), some (pI (-1))]) dX5_cancelled_154 (by decide) rfl ?_
          refine Wq.iinc (x := x9) (ls2 := [some (pO 20 9 0), none, some (pI x2), some (pI x3), some (pI x4), some (pI x5), some (pI x6), some (pI (x7 + 0)), some (pI (x8 + 0)), some (pI (x9 + 1)), some (pI x5), some (pI (-1))]) dX5_cancelled_156 rfl (by decide) rfl ?_
          refine Wq.goto (tgt := 76) dX5_cancelled_159 (by decide) ?_
          refine Wq.few (ls' := [some (pO 20 9 0), none, some (pI x2), some (pI x3), some (pI x4), some (pI x5), some (pI x6), some (pI (x7 + 0)), some (pI (x8 + 0)), some (pI (x9 + 1)), none, none]) ⟨rfl, ⟨rfl, ⟨rfl, ⟨rfl, ⟨rfl, ⟨rfl, ⟨rfl, ⟨rfl, ⟨rfl, trivial⟩⟩⟩⟩⟩⟩⟩⟩⟩ ?_
          exact h
        · replace h := h.2 q14
          refine Wq.iload (x := (-1)) dX5_cancelled_120 rfl ?_
          refine Wq.iconst (v := (-1)) dX5_cancelled_122 (by decide) ?_
          refine Wq.icmpne (tgt := 130) dX5_cancelled_123 (by decide) (fun q9 => absurd q9 (by decide)) (fun _ => ?_)
          refine Wq.iconst (v := 1) dX5_cancelled_126 (by decide) ?_
          refine Wq.goto (tgt := 131) dX5_cancelled_127 (by decide) ?_
          refine Wq.iadd dX5_cancelled_131 ?_
          refine Wq.istore (ls2 := [some (pO 20 9 0), none, some (pI x2), some (pI x3), some (pI x4), some (pI x5), some (pI x6), some (pI (x7 + 1)), some (pI x8), some (pI x9), some (pI x5), some (pI (-1))]) dX5_cancelled_132 (by decide) rfl ?_
          refine Wq.iload (x := x8) dX5_cancelled_134 rfl ?_
          refine Wq.iload (x := (-1)) dX5_cancelled_136 rfl ?_
          refine Wq.iconst (v := (-1)) dX5_cancelled_138 (by decide) ?_
          refine Wq.icmpne (tgt := 146) dX5_cancelled_139 (by decide) (fun q9 => absurd q9 (by decide)) (fun _ => ?_)
          refine Wq.iconst (v := 0) dX5_cancelled_142 (by decide) ?_
          refine Wq.goto (tgt := 153) dX5_cancelled_143 (by decide) ?_
          refine Wq.iadd dX5_cancelled_153 ?_
          refine Wq.istore (ls2 := [some (pO 20 9 0), none, some (pI x2), some (pI x3), some (pI x4), some (pI x5), some (pI x6), some (pI (x7 + 1)), some (pI (x8 + 0)), some (pI x9), some (pI x5), some (pI (-1))]) dX5_cancelled_154 (by decide) rfl ?_
          refine Wq.iinc (x := x9) (ls2 := [some (pO 20 9 0), none, some (pI x2), some (pI x3), some (pI x4), some (pI x5), some (pI x6), some (pI (x7 + 1)), some (pI (x8 + 0)), some (pI (x9 + 1)), some (pI x5), some (pI (-1))]) dX5_cancelled_156 rfl (by decide) rfl ?_
          refine Wq.goto (tgt := 76) dX5_cancelled_159 (by decide) ?_
          refine Wq.few (ls' := [some (pO 20 9 0), none, some (pI x2), some (pI x3), some (pI x4), some (pI x5), some (pI x6), some (pI (x7 + 1)), some (pI (x8 + 0)), some (pI (x9 + 1)), none, none]) ⟨rfl, ⟨rfl, ⟨rfl, ⟨rfl, ⟨rfl, ⟨rfl, ⟨rfl, ⟨rfl, ⟨rfl, trivial⟩⟩⟩⟩⟩⟩⟩⟩⟩ ?_
          exact h
    · replace h := h.2 q2
      refine Wq.iload (x := x4) dX5_cancelled_87 rfl ?_
      refine Wq.goto (tgt := 94) dX5_cancelled_89 (by decide) ?_
      refine Wq.istore (ls2 := [some (pO 20 9 0), none, some (pI x2), some (pI x3), some (pI x4), some (pI x5), some (pI x6), some (pI x7), some (pI x8), some (pI x9), some (pI x4), none]) dX5_cancelled_94 (by decide) rfl ?_
      refine Wq.iload (x := x4) dX5_cancelled_96 rfl ?_
      refine Wq.ifge (tgt := 105) dX5_cancelled_98 (by decide) (fun q15 => ?_) (fun q15 => ?_)
      · replace h := h.1 q15
        refine Wq.aload_n (t := 20) (r := 9) (j := 0) dX5_cancelled_105 rfl ?_
        refine Wq.iload (x := x4) dX5_cancelled_106 rfl ?_
        refine Wq.callVI (As := [pI x4]) dX5_cancelled_108 fX5_slotBy ml_X5_106 rfl (by decide) rfl (Nat.le_of_ble_eq_true rfl) (Nat.le_of_ble_eq_true rfl) h (fun r16 m17 h => ?_)
        refine Wq.istore (ls2 := [some (pO 20 9 0), none, some (pI x2), some (pI x3), some (pI x4), some (pI x5), some (pI x6), some (pI x7), some (pI x8), some (pI x9), some (pI x4), some (pI r16)]) dX5_cancelled_111 (by decide) rfl ?_
        refine Wq.iload (x := x7) dX5_cancelled_113 rfl ?_
        refine Wq.iload (x := x4) dX5_cancelled_115 rfl ?_
        refine Wq.iflt (tgt := 130) dX5_cancelled_117 (by decide) (fun q18 => ?_) (fun q18 => ?_)
        · replace h := h.1 q18
          refine Wq.iconst (v := 0) dX5_cancelled_130 (by decide) ?_
          refine Wq.iadd dX5_cancelled_131 ?_
          refine Wq.istore (ls2 := [some (pO 20 9 0), none, some (pI x2), some (pI x3), some (pI x4), some (pI x5), some (pI x6), some (pI (x7 + 0)), some (pI x8), some (pI x9), some (pI x4), some (pI r16)]) dX5_cancelled_132 (by decide) rfl ?_
          refine Wq.iload (x := x8) dX5_cancelled_134 rfl ?_
          refine Wq.iload (x := r16) dX5_cancelled_136 rfl ?_
          refine Wq.iconst (v := (-1)) dX5_cancelled_138 (by decide) ?_
          refine Wq.icmpne (tgt := 146) dX5_cancelled_139 (by decide) (fun q19 => ?_) (fun q19 => ?_)
          · replace h := h.1 q19
            refine Wq.iload (x := r16) dX5_cancelled_146 rfl ?_
            refine Wq.callSI (As := [pI r16]) dX5_cancelled_148 fX5_dayOf ml_X5_56 rfl (Nat.le_of_ble_eq_true rfl) (Nat.le_of_ble_eq_true rfl) (suX5_dayOf trivial) (fun x20 m9 e9 => ?_)
            obtain ⟨rfl, rfl⟩ := e9
            refine Wq.iload_n (x := x2) dX5_cancelled_151 rfl ?_
            refine Wq.isub dX5_cancelled_152 ?_
            refine Wq.iadd dX5_cancelled_153 ?_
            refine Wq.istore (ls2 := [some (pO 20 9 0), none, some (pI x2), some (pI x3), some (pI x4), some (pI x5), some (pI x6), some (pI (x7 + 0)), some (pI (x8 + ((r16 / 16) - x2))), some (pI x9), some (pI x4), some (pI r16)]) dX5_cancelled_154 (by decide) rfl ?_
            refine Wq.iinc (x := x9) (ls2 := [some (pO 20 9 0), none, some (pI x2), some (pI x3), some (pI x4), some (pI x5), some (pI x6), some (pI (x7 + 0)), some (pI (x8 + ((r16 / 16) - x2))), some (pI (x9 + 1)), some (pI x4), some (pI r16)]) dX5_cancelled_156 rfl (by decide) rfl ?_
            refine Wq.goto (tgt := 76) dX5_cancelled_159 (by decide) ?_
            refine Wq.few (ls' := [some (pO 20 9 0), none, some (pI x2), some (pI x3), some (pI x4), some (pI x5), some (pI x6), some (pI (x7 + 0)), some (pI (x8 + ((r16 / 16) - x2))), some (pI (x9 + 1)), none, none]) ⟨rfl, ⟨rfl, ⟨rfl, ⟨rfl, ⟨rfl, ⟨rfl, ⟨rfl, ⟨rfl, ⟨rfl, trivial⟩⟩⟩⟩⟩⟩⟩⟩⟩ ?_
            exact h
          · replace h := h.2 q19
            refine Wq.iconst (v := 0) dX5_cancelled_142 (by decide) ?_
            refine Wq.goto (tgt := 153) dX5_cancelled_143 (by decide) ?_
            refine Wq.iadd dX5_cancelled_153 ?_
            refine Wq.istore (ls2 := [some (pO 20 9 0), none, some (pI x2), some (pI x3), some (pI x4), some (pI x5), some (pI x6), some (pI (x7 + 0)), some (pI (x8 + 0)), some (pI x9), some (pI x4), some (pI r16)]) dX5_cancelled_154 (by decide) rfl ?_
            refine Wq.iinc (x := x9) (ls2 := [some (pO 20 9 0), none, some (pI x2), some (pI x3), some (pI x4), some (pI x5), some (pI x6), some (pI (x7 + 0)), some (pI (x8 + 0)), some (pI (x9 + 1)), some (pI x4), some (pI r16)]) dX5_cancelled_156 rfl (by decide) rfl ?_
            refine Wq.goto (tgt := 76) dX5_cancelled_159 (by decide) ?_
            refine Wq.few (ls' := [some (pO 20 9 0), none, some (pI x2), some (pI x3), some (pI x4), some (pI x5), some (pI x6), some (pI (x7 + 0)), some (pI (x8 + 0)), some (pI (x9 + 1)), none, none]) ⟨rfl, ⟨rfl, ⟨rfl, ⟨rfl, ⟨rfl, ⟨rfl, ⟨rfl, ⟨rfl, ⟨rfl, trivial⟩⟩⟩⟩⟩⟩⟩⟩⟩ ?_
            exact h
        · replace h := h.2 q18
          refine Wq.iload (x := r16) dX5_cancelled_120 rfl ?_
          refine Wq.iconst (v := (-1)) dX5_cancelled_122 (by decide) ?_
          refine Wq.icmpne (tgt := 130) dX5_cancelled_123 (by decide) (fun q21 => ?_) (fun q21 => ?_)
          · replace h := h.1 q21
            refine Wq.iconst (v := 0) dX5_cancelled_130 (by decide) ?_
            refine Wq.iadd dX5_cancelled_131 ?_
            refine Wq.istore (ls2 := [some (pO 20 9 0), none, some (pI x2), some (pI x3), some (pI x4), some (pI x5), some (pI x6), some (pI (x7 + 0)), some (pI x8), some (pI x9), some (pI x4), some (pI r16)]) dX5_cancelled_132 (by decide) rfl ?_
            refine Wq.iload (x := x8) dX5_cancelled_134 rfl ?_
            refine Wq.iload (x := r16) dX5_cancelled_136 rfl ?_
            refine Wq.iconst (v := (-1)) dX5_cancelled_138 (by decide) ?_
            refine Wq.icmpne (tgt := 146) dX5_cancelled_139 (by decide) (fun q22 => ?_) (fun q22 => ?_)
            · replace h := h.1 q22
              refine Wq.iload (x := r16) dX5_cancelled_146 rfl ?_
              refine Wq.callSI (As := [pI r16]) dX5_cancelled_148 fX5_dayOf ml_X5_56 rfl (Nat.le_of_ble_eq_true rfl) (Nat.le_of_ble_eq_true rfl) (suX5_dayOf trivial) (fun x23 m9 e9 => ?_)
              obtain ⟨rfl, rfl⟩ := e9
              refine Wq.iload_n (x := x2) dX5_cancelled_151 rfl ?_
              refine Wq.isub dX5_cancelled_152 ?_
              refine Wq.iadd dX5_cancelled_153 ?_
              refine Wq.istore (ls2 := [some (pO 20 9 0), none, some (pI x2), some (pI x3), some (pI x4), some (pI x5), some (pI x6), some (pI (x7 + 0)), some (pI (x8 + ((r16 / 16) - x2))), some (pI x9), some (pI x4), some (pI r16)]) dX5_cancelled_154 (by decide) rfl ?_
              refine Wq.iinc (x := x9) (ls2 := [some (pO 20 9 0), none, some (pI x2), some (pI x3), some (pI x4), some (pI x5), some (pI x6), some (pI (x7 + 0)), some (pI (x8 + ((r16 / 16) - x2))), some (pI (x9 + 1)), some (pI x4), some (pI r16)]) dX5_cancelled_156 rfl (by decide) rfl ?_
              refine Wq.goto (tgt := 76) dX5_cancelled_159 (by decide) ?_
              refine Wq.few (ls' := [some (pO 20 9 0), none, some (pI x2), some (pI x3), some (pI x4), some (pI x5), some (pI x6), some (pI (x7 + 0)), some (pI (x8 + ((r16 / 16) - x2))), some (pI (x9 + 1)), none, none]) ⟨rfl, ⟨rfl, ⟨rfl, ⟨rfl, ⟨rfl, ⟨rfl, ⟨rfl, ⟨rfl, ⟨rfl, trivial⟩⟩⟩⟩⟩⟩⟩⟩⟩ ?_
              exact h
            · replace h := h.2 q22
              refine Wq.iconst (v := 0) dX5_cancelled_142 (by decide) ?_
              refine Wq.goto (tgt := 153) dX5_cancelled_143 (by decide) ?_
              refine Wq.iadd dX5_cancelled_153 ?_
              refine Wq.istore (ls2 := [some (pO 20 9 0), none, some (pI x2), some (pI x3), some (pI x4), some (pI x5), some (pI x6), some (pI (x7 + 0)), some (pI (x8 + 0)), some (pI x9), some (pI x4), some (pI r16)]) dX5_cancelled_154 (by decide) rfl ?_
              refine Wq.iinc (x := x9) (ls2 := [some (pO 20 9 0), none, some (pI x2), some (pI x3), some (pI x4), some (pI x5), some (pI x6), some (pI (x7 + 0)), some (pI (x8 + 0)), some (pI (x9 + 1)), some (pI x4), some (pI r16)]) dX5_cancelled_156 rfl (by decide) rfl ?_
              refine Wq.goto (tgt := 76) dX5_cancelled_159 (by decide) ?_
              refine Wq.few (ls' := [some (pO 20 9 0), none, some (pI x2), some (pI x3), some (pI x4), some (pI x5), some (pI x6), some (pI (x7 + 0)), some (pI (x8 + 0)), some (pI (x9 + 1)), none, none]) ⟨rfl, ⟨rfl, ⟨rfl, ⟨rfl, ⟨rfl, ⟨rfl, ⟨rfl, ⟨rfl, ⟨rfl, trivial⟩⟩⟩⟩⟩⟩⟩⟩⟩ ?_
              exact h
          · replace h := h.2 q21
            refine Wq.iconst (v := 1) dX5_cancelled_126 (by decide) ?_
            refine Wq.goto (tgt := 131) dX5_cancelled_127 (by decide) ?_
            refine Wq.iadd dX5_cancelled_131 ?_
            refine Wq.istore (ls2 := [some (pO 20 9 0), none, some (pI x2), some (pI x3), some (pI x4), some (pI x5), some (pI x6), some (pI (x7 + 1)), some (pI x8), some (pI x9), some (pI x4), some (pI r16)]) dX5_cancelled_132 (by decide) rfl ?_
            refine Wq.iload (x := x8) dX5_cancelled_134 rfl ?_
            refine Wq.iload (x := r16) dX5_cancelled_136 rfl ?_
            refine Wq.iconst (v := (-1)) dX5_cancelled_138 (by decide) ?_
            refine Wq.icmpne (tgt := 146) dX5_cancelled_139 (by decide) (fun q24 => ?_) (fun q24 => ?_)
            · replace h := h.1 q24
              refine Wq.iload (x := r16) dX5_cancelled_146 rfl ?_
              refine Wq.callSI (As := [pI r16]) dX5_cancelled_148 fX5_dayOf ml_X5_56 rfl (Nat.le_of_ble_eq_true rfl) (Nat.le_of_ble_eq_true rfl) (suX5_dayOf trivial) (fun x25 m9 e9 => ?_)
              obtain ⟨rfl, rfl⟩ := e9
              refine Wq.iload_n (x := x2) dX5_cancelled_151 rfl ?_
              refine Wq.isub dX5_cancelled_152 ?_
              refine Wq.iadd dX5_cancelled_153 ?_
              refine Wq.istore (ls2 := [some (pO 20 9 0), none, some (pI x2), some (pI x3), some (pI x4), some (pI x5), some (pI x6), some (pI (x7 + 1)), some (pI (x8 + ((r16 / 16) - x2))), some (pI x9), some (pI x4), some (pI r16)]) dX5_cancelled_154 (by decide) rfl ?_
              refine Wq.iinc (x := x9) (ls2 := [some (pO 20 9 0), none, some (pI x2), some (pI x3), some (pI x4), some (pI x5), some (pI x6), some (pI (x7 + 1)), some (pI (x8 + ((r16 / 16) - x2))), some (pI (x9 + 1)), some (pI x4), some (pI r16)]) dX5_cancelled_156 rfl (by decide) rfl ?_
              refine Wq.goto (tgt := 76) dX5_cancelled_159 (by decide) ?_
              refine Wq.few (ls' := [some (pO 20 9 0), none, some (pI x2), some (pI x3), some (pI x4), some (pI x5), some (pI x6), some (pI (x7 + 1)), some (pI (x8 + ((r16 / 16) - x2))), some (pI (x9 + 1)), none, none]) ⟨rfl, ⟨rfl, ⟨rfl, ⟨rfl, ⟨rfl, ⟨rfl, ⟨rfl, ⟨rfl, ⟨rfl, trivial⟩⟩⟩⟩⟩⟩⟩⟩⟩ ?_
              exact h
            · replace h := h.2 q24
              refine Wq.iconst (v := 0) dX5_cancelled_142 (by decide) ?_
              refine Wq.goto (tgt := 153) dX5_cancelled_143 (by decide) ?_
              refine Wq.iadd dX5_cancelled_153 ?_
              refine Wq.istore (ls2 := [some (pO 20 9 0), none, some (pI x2), some (pI x3), some (pI x4), some (pI x5), some (pI x6), some (pI (x7 + 1)), some (pI (x8 + 0)), some (pI x9), some (pI x4), some (pI r16)]) dX5_cancelled_154 (by decide) rfl ?_
              refine Wq.iinc (x := x9) (ls2 := [some (pO 20 9 0), none, some (pI x2), some (pI x3), some (pI x4), some (pI x5), some (pI x6), some (pI (x7 + 1)), some (pI (x8 + 0)), some (pI (x9 + 1)), some (pI x4), some (pI r16)]) dX5_cancelled_156 rfl (by decide) rfl ?_
              refine Wq.goto (tgt := 76) dX5_cancelled_159 (by decide) ?_
              refine Wq.few (ls' := [some (pO 20 9 0), none, some (pI x2), some (pI x3), some (pI x4), some (pI x5), some (pI x6), some (pI (x7 + 1)), some (pI (x8 + 0)), some (pI (x9 + 1)), none, none]) ⟨rfl, ⟨rfl, ⟨rfl, ⟨rfl, ⟨rfl, ⟨rfl, ⟨rfl, ⟨rfl, ⟨rfl, trivial⟩⟩⟩⟩⟩⟩⟩⟩⟩ ?_
              exact h
      · replace h := h.2 q15
        refine Wq.iconst (v := (-1)) dX5_cancelled_101 (by decide) ?_
        refine Wq.goto (tgt := 111) dX5_cancelled_102 (by decide) ?_
        refine Wq.istore (ls2 := [some (pO 20 9 0), none, some (pI x2), some (pI x3), some (pI x4), some (pI x5), some (pI x6), some (pI x7), some (pI x8), some (pI x9), some (pI x4), some (pI (-1))]) dX5_cancelled_111 (by decide) rfl ?_
        refine Wq.iload (x := x7) dX5_cancelled_113 rfl ?_
        refine Wq.iload (x := x4) dX5_cancelled_115 rfl ?_
        refine Wq.iflt (tgt := 130) dX5_cancelled_117 (by decide) (fun q26 => ?_) (fun q26 => ?_)
        · replace h := h.1 q26
          refine Wq.iconst (v := 0) dX5_cancelled_130 (by decide) ?_
          refine Wq.iadd dX5_cancelled_131 ?_
          refine Wq.istore (ls2 := [some (pO 20 9 0), none, some (pI x2), some (pI x3), some (pI x4), some (pI x5), some (pI x6), some (pI (x7 + 0)), some (pI x8), some (pI x9), some (pI x4), some (pI (-1))]) dX5_cancelled_132 (by decide) rfl ?_
          refine Wq.iload (x := x8) dX5_cancelled_134 rfl ?_
          refine Wq.iload (x := (-1)) dX5_cancelled_136 rfl ?_
          refine Wq.iconst (v := (-1)) dX5_cancelled_138 (by decide) ?_
          refine Wq.icmpne (tgt := 146) dX5_cancelled_139 (by decide) (fun q9 => absurd q9 (by decide)) (fun _ => ?_)
          refine Wq.iconst (v := 0) dX5_cancelled_142 (by decide) ?_
          refine Wq.goto (tgt := 153) dX5_cancelled_143 (by decide) ?_
          refine Wq.iadd dX5_cancelled_153 ?_
          refine Wq.istore (ls2 := [some (pO 20 9 0), none, some (pI x2), some (pI x3), some (pI x4), some (pI x5), some (pI x6), some (pI (x7 + 0)), some (pI (x8 + 0)), some (pI x9), some (pI x4), some (pI (-1))]) dX5_cancelled_154 (by decide) rfl ?_
          refine Wq.iinc (x := x9) (ls2 := [some (pO 20 9 0), none, some (pI x2), some (pI x3), some (pI x4), some (pI x5), some (pI x6), some (pI (x7 + 0)), some (pI (x8 + 0)), some (pI (x9 + 1)), some (pI x4), some (pI (-1))]) dX5_cancelled_156 rfl (by decide) rfl ?_
          refine Wq.goto (tgt := 76) dX5_cancelled_159 (by decide) ?_
          refine Wq.few (ls' := [some (pO 20 9 0), none, some (pI x2), some (pI x3), some (pI x4), some (pI x5), some (pI x6), some (pI (x7 + 0)), some (pI (x8 + 0)), some (pI (x9 + 1)), none, none]) ⟨rfl, ⟨rfl, ⟨rfl, ⟨rfl, ⟨rfl, ⟨rfl, ⟨rfl, ⟨rfl, ⟨rfl, trivial⟩⟩⟩⟩⟩⟩⟩⟩⟩ ?_
          exact h
        · replace h := h.2 q26
          refine Wq.iload (x := (-1)) dX5_cancelled_120 rfl ?_
          refine Wq.iconst (v := (-1)) dX5_cancelled_122 (by decide) ?_
          refine Wq.icmpne (tgt := 130) dX5_cancelled_123 (by decide) (fun q9 => absurd q9 (by decide)) (fun _ => ?_)
          refine Wq.iconst (v := 1) dX5_cancelled_126 (by decide) ?_
          refine Wq.goto (tgt := 131) dX5_cancelled_127 (by decide) ?_
          refine Wq.iadd dX5_cancelled_131 ?_
          refine Wq.istore (ls2 := [some (pO 20 9 0), none, some (pI x2), some (pI x3), some (pI x4), some (pI x5), some (pI x6), some (pI (x7 + 1)), some (pI x8), some (pI x9), some (pI x4), some (pI (-1))]) dX5_cancelled_132 (by decide) rfl ?_
          refine Wq.iload (x := x8) dX5_cancelled_134 rfl ?_
          refine Wq.iload (x := (-1)) dX5_cancelled_136 rfl ?_
          refine Wq.iconst (v := (-1)) dX5_cancelled_138 (by decide) ?_
          refine Wq.icmpne (tgt := 146) dX5_cancelled_139 (by decide) (fun q9 => absurd q9 (by decide)) (fun _ => ?_)
          refine Wq.iconst (v := 0) dX5_cancelled_142 (by decide) ?_
          refine Wq.goto (tgt := 153) dX5_cancelled_143 (by decide) ?_
          refine Wq.iadd dX5_cancelled_153 ?_
          refine Wq.istore (ls2 := [some (pO 20 9 0), none, some (pI x2), some (pI x3), some (pI x4), some (pI x5), some (pI x6), some (pI (x7 + 1)), some (pI (x8 + 0)), some (pI x9), some (pI x4), some (pI (-1))]) dX5_cancelled_154 (by decide) rfl ?_
          refine Wq.iinc (x := x9) (ls2 := [some (pO 20 9 0), none, some (pI x2), some (pI x3), some (pI x4), some (pI x5), some (pI x6), some (pI (x7 + 1)), some (pI (x8 + 0)), some (pI (x9 + 1)), some (pI x4), some (pI (-1))]) dX5_cancelled_156 rfl (by decide) rfl ?_
          refine Wq.goto (tgt := 76) dX5_cancelled_159 (by decide) ?_
          refine Wq.few (ls' := [some (pO 20 9 0), none, some (pI x2), some (pI x3), some (pI x4), some (pI x5), some (pI x6), some (pI (x7 + 1)), some (pI (x8 + 0)), some (pI (x9 + 1)), none, none]) ⟨rfl, ⟨rfl, ⟨rfl, ⟨rfl, ⟨rfl, ⟨rfl, ⟨rfl, ⟨rfl, ⟨rfl, trivial⟩⟩⟩⟩⟩⟩⟩⟩⟩ ?_
          exact h
set_option maxHeartbeats 4000000 in
set_option maxRecDepth 20000 in
theorem sgX5_cancelled_165 {g : GG} {d : Nat} {c n : Nat} {m : PM} {Q : Ou → PM → Nat → Nat → Prop} {x3 : Int32} {x6 : Int32} {x7 : Int32} {x8 : Int32} {x9 : Int32} (h : ((341 ≤ x9 → ((¬ x3 = 0 → ((¬ x3 = 1 → Q (.inl (some (pI x8))) m c n) ∧ (x3 = 1 → Q (.inl (some (pI x7))) m c n))) ∧ (x3 = 0 → Q (.inl (some (pI x6))) m c n))) ∧ (¬ 341 ≤ x9 → (vp_in x9 341 ∧ (vp_in x9 341 ∧ Wq g (d + 6) MX5_cancelled c n 165 [some (pO 20 9 0), none, none, some (pI x3), none, none, some (pI x6), some (pI x7), some (pI x8), some (pI (x9 + 1)), none, none] [] (setI m 21 9 0 (ix x9) (m.1 9 22 0 (ix x9))) Q))))) : Wq g (d + 6) MX5_cancelled c n 165 [some (pO 20 9 0), none, none, some (pI x3), none, none, some (pI x6), some (pI x7), some (pI x8), some (pI x9), none, none] [] m Q := by
  refine Wq.iload (x := x9) dX5_cancelled_165 rfl ?_
  refine Wq.sipush (v := 341) dX5_cancelled_167 (by decide) ?_
  refine Wq.icmpge (tgt := 193) dX5_cancelled_170 (by decide) (fun q1 => ?_) (fun q1 => ?_)
  · replace h := h.1 q1
    refine Wq.iload_n (x := x3) dX5_cancelled_193 rfl ?_
    refine Wq.ifne (tgt := 202) dX5_cancelled_194 (by decide) (fun q2 => ?_) (fun q2 => ?_)
    · replace h := h.1 q2
      refine Wq.iload_n (x := x3) dX5_cancelled_202 rfl ?_
      refine Wq.iconst (v := 1) dX5_cancelled_203 (by decide) ?_
      refine Wq.icmpne (tgt := 212) dX5_cancelled_204 (by decide) (fun q3 => ?_) (fun q3 => ?_)
      · replace h := h.1 q3
        refine Wq.iload (x := x8) dX5_cancelled_212 rfl ?_
        exact Wq.iret dX5_cancelled_214 (⟨_, rfl, rfl⟩) h
      · replace h := h.2 q3
        refine Wq.iload (x := x7) dX5_cancelled_207 rfl ?_
        refine Wq.goto (tgt := 214) dX5_cancelled_209 (by decide) ?_
        exact Wq.iret dX5_cancelled_214 (⟨_, rfl, rfl⟩) h
    · replace h := h.2 q2
      refine Wq.iload (x := x6) dX5_cancelled_197 rfl ?_
      refine Wq.goto (tgt := 214) dX5_cancelled_199 (by decide) ?_
      exact Wq.iret dX5_cancelled_214 (⟨_, rfl, rfl⟩) h
  · replace h := h.2 q1
    refine Wq.aload_n (t := 20) (r := 9) (j := 0) dX5_cancelled_173 rfl ?_
    refine Wq.getf (v := pO 21 9 0) dX5_cancelled_174 fl_X5_7 ⟨rfl, rfl, by decide⟩ rfl ?_
    refine Wq.iload (x := x9) dX5_cancelled_177 rfl ?_
    refine Wq.aload_n (t := 20) (r := 9) (j := 0) dX5_cancelled_179 rfl ?_
    refine Wq.getf (v := pO 22 9 0) dX5_cancelled_180 fl_X5_13 ⟨rfl, rfl, by decide⟩ rfl ?_
    refine Wq.iload (x := x9) dX5_cancelled_183 rfl ?_
    refine Wq.iald dX5_cancelled_185 rfl h.1 ?_
    replace h := h.2
    refine Wq.iast dX5_cancelled_186 rfl h.1 ?_
    replace h := h.2
    refine Wq.iinc (x := x9) (ls2 := [some (pO 20 9 0), none, none, some (pI x3), none, none, some (pI x6), some (pI x7), some (pI x8), some (pI (x9 + 1)), none, none]) dX5_cancelled_187 rfl (by decide) rfl ?_
    refine Wq.goto (tgt := 165) dX5_cancelled_190 (by decide) ?_
    exact h
set_option maxHeartbeats 4000000 in
set_option maxRecDepth 20000 in
theorem sgX5_go {g : GG} {d : Nat} {c n : Nat} {m : PM} {Q : Ou → PM → Nat → Nat → Prop} {x1 : Int32} (h : Wq g (d + 7) MX5_go c n 14 [some (pO 20 9 0), some (pI x1), some (pI 0), some (pI 1), none, none] [] (setI (setI m 20 9 0 8 0) 20 9 0 9 0) Q) : Wq g (d + 7) MX5_go c n 0 [some (pO 20 9 0), some (pI x1)] [] m Q := by
  refine Wq.few (ls' := [some (pO 20 9 0), some (pI x1), none, none, none, none]) ⟨rfl, ⟨rfl, trivial⟩⟩ ?_
  refine Wq.aload_n (t := 20) (r := 9) (j := 0) dX5_go_0 rfl ?_
  refine Wq.iconst (v := 0) dX5_go_1 (by decide) ?_
  refine Wq.putI dX5_go_2 fw_X5_150 ⟨rfl, rfl, by decide⟩ ⟨rfl, by decide, by decide⟩ ⟨rfl, rfl⟩ ?_
  refine Wq.aload_n (t := 20) (r := 9) (j := 0) dX5_go_5 rfl ?_
  refine Wq.iconst (v := 0) dX5_go_6 (by decide) ?_
  refine Wq.putI dX5_go_7 fw_X5_153 ⟨rfl, rfl, by decide⟩ ⟨rfl, by decide, by decide⟩ ⟨by decide, by decide⟩ ?_
  refine Wq.iconst (v := 0) dX5_go_10 (by decide) ?_
  refine Wq.istore_n (ls2 := [some (pO 20 9 0), some (pI x1), some (pI 0), none, none, none]) dX5_go_11 (by decide) rfl ?_
  refine Wq.iconst (v := 1) dX5_go_12 (by decide) ?_
  refine Wq.istore_n (ls2 := [some (pO 20 9 0), some (pI x1), some (pI 0), some (pI 1), none, none]) dX5_go_13 (by decide) rfl ?_
  exact h
set_option maxHeartbeats 4000000 in
set_option maxRecDepth 20000 in
theorem sgX5_go_14 {g : GG} {d : Nat} {c n : Nat} {m : PM} {Q : Ou → PM → Nat → Nat → Prop} {x1 : Int32} {x2 : Int32} {x3 : Int32} (h : ((x3 = 0 → Q (.inl (some (pI x2))) m c n) ∧ (¬ x3 = 0 → Wp g (d + 6) MX5_order 0 [some (pO 20 9 0)] [] m (cV fun m3 => ((x1 = 0 → ((¬ (m3.1 9 20 0 9) = 0 → Wq g (d + 7) MX5_go c n 14 [some (pO 20 9 0), some (pI x1), some (pI (x2 + 0)), some (pI 0), none, none] [] m3 Q) ∧ ((m3.1 9 20 0 9) = 0 → ((¬ x1 = 0 → Wq g (d + 7) MX5_go c n 14 [some (pO 20 9 0), some (pI x1), some (pI (x2 + 0)), some (pI 0), none, none] [] m3 Q) ∧ (x1 = 0 → (((m3.1 9 20 0 6) ≤ (m3.1 9 20 0 8) → Wq g (d + 7) MX5_go c n 14 [some (pO 20 9 0), some (pI x1), some (pI (x2 + 0)), some (pI 0), none, none] [] m3 Q) ∧ (¬ (m3.1 9 20 0 6) ≤ (m3.1 9 20 0 8) → Wp g (d + 6) MX5_sign 0 [some (pO 20 9 0), some (pI 59), some (pI 59)] [] m3 (cI fun r8 m9 => ((¬ (m9.1 9 20 0 9) = 0 → Wq g (d + 7) MX5_go c n 14 [some (pO 20 9 0), some (pI x1), some (pI (x2 + 0)), some (pI 0), none, none] [] m9 Q) ∧ ((m9.1 9 20 0 9) = 0 → Wq g (d + 7) MX5_go c n 14 [some (pO 20 9 0), some (pI x1), some (pI (x2 + 0)), some (pI 1), none, none] [] m9 Q)))))))))) ∧ (¬ x1 = 0 → Wp g (d + 6) MX5_does 0 [some (pO 20 9 0)] [] m3 (cI fun r11 m12 => ((r11 = 0 → ((¬ (m12.1 9 20 0 9) = 0 → Wq g (d + 7) MX5_go c n 14 [some (pO 20 9 0), some (pI x1), some (pI (x2 + 0)), some (pI 0), none, none] [] m12 Q) ∧ ((m12.1 9 20 0 9) = 0 → ((¬ x1 = 0 → Wq g (d + 7) MX5_go c n 14 [some (pO 20 9 0), some (pI x1), some (pI (x2 + 0)), some (pI 0), none, none] [] m12 Q) ∧ (x1 = 0 → (((m12.1 9 20 0 6) ≤ (m12.1 9 20 0 8) → Wq g (d + 7) MX5_go c n 14 [some (pO 20 9 0), some (pI x1), some (pI (x2 + 0)), some (pI 0), none, none] [] m12 Q) ∧ (¬ (m12.1 9 20 0 6) ≤ (m12.1 9 20 0 8) → Wp g (d + 6) MX5_sign 0 [some (pO 20 9 0), some (pI 59), some (pI 59)] [] m12 (cI fun r17 m18 => ((¬ (m18.1 9 20 0 9) = 0 → Wq g (d + 7) MX5_go c n 14 [some (pO 20 9 0), some (pI x1), some (pI (x2 + 0)), some (pI 0), none, none] [] m18 Q) ∧ ((m18.1 9 20 0 9) = 0 → Wq g (d + 7) MX5_go c n 14 [some (pO 20 9 0), some (pI x1), some (pI (x2 + 0)), some (pI 1), none, none] [] m18 Q)))))))))) ∧ (¬ r11 = 0 → ((¬ (m12.1 9 20 0 9) = 0 → Wq g (d + 7) MX5_go c n 14 [some (pO 20 9 0), some (pI x1), some (pI (x2 + 1)), some (pI 0), none, none] [] m12 Q) ∧ ((m12.1 9 20 0 9) = 0 → (((m12.1 9 20 0 6) ≤ (m12.1 9 20 0 8) → Wq g (d + 7) MX5_go c n 14 [some (pO 20 9 0), some (pI x1), some (pI (x2 + 1)), some (pI 0), none, none] [] m12 Q) ∧ (¬ (m12.1 9 20 0 6) ≤ (m12.1 9 20 0 8) → Wp g (d + 6) MX5_sign 0 [some (pO 20 9 0), some (pI 59), some (pI 59)] [] m12 (cI fun r22 m23 => ((¬ (m23.1 9 20 0 9) = 0 → Wq g (d + 7) MX5_go c n 14 [some (pO 20 9 0), some (pI x1), some (pI (x2 + 1)), some (pI 0), none, none] [] m23 Q) ∧ ((m23.1 9 20 0 9) = 0 → Wq g (d + 7) MX5_go c n 14 [some (pO 20 9 0), some (pI x1), some (pI (x2 + 1)), some (pI 1), none, none] [] m23 Q)))))))))))))))) : Wq g (d + 7) MX5_go c n 14 [some (pO 20 9 0), some (pI x1), some (pI x2), some (pI x3), none, none] [] m Q := by
  refine Wq.iload_n (x := x3) dX5_go_14 rfl ?_
  refine Wq.ifeq (tgt := 116) dX5_go_15 (by decide) (fun q1 => ?_) (fun q1 => ?_)
  · replace h := h.1 q1
    refine Wq.iload_n (x := x2) dX5_go_116 rfl ?_
    exact Wq.iret dX5_go_117 (⟨_, rfl, rfl⟩) h
  · replace h := h.2 q1
    refine Wq.aload_n (t := 20) (r := 9) (j := 0) dX5_go_18 rfl ?_
    refine Wq.callVV (As := []) dX5_go_19 fX5_order ml_X5_168 rfl (by decide) rfl (Nat.le_of_ble_eq_true rfl) (Nat.le_of_ble_eq_true rfl) h (fun m3 h => ?_)
    refine Wq.iload_n (x := x1) dX5_go_22 rfl ?_
    refine Wq.ifeq (tgt := 37) dX5_go_23 (by decide) (fun q4 => ?_) (fun q4 => ?_)
    · replace h := h.1 q4
      refine Wq.iconst (v := 0) dX5_go_37 (by decide) ?_
      refine Wq.istore (ls2 := [some (pO 20 9 0), some (pI x1), some (pI x2), some (pI x3), some (pI 0), none]) dX5_go_38 (by decide) rfl ?_
      refine Wq.iload_n (x := x2) dX5_go_40 rfl ?_
      refine Wq.iload (x := 0) dX5_go_41 rfl ?_
      refine Wq.ifeq (tgt := 50) dX5_go_43 (by decide) (fun _ => ?_) (fun q9 => absurd q9 (by decide))
      refine Wq.iconst (v := 0) dX5_go_50 (by decide) ?_
      refine Wq.iadd dX5_go_51 ?_
      refine Wq.istore_n (ls2 := [some (pO 20 9 0), some (pI x1), some (pI (x2 + 0)), some (pI x3), some (pI 0), none]) dX5_go_52 (by decide) rfl ?_
      refine Wq.aload_n (t := 20) (r := 9) (j := 0) dX5_go_53 rfl ?_
      refine Wq.getf (v := pI (m3.1 9 20 0 9)) dX5_go_54 fl_X5_153 ⟨rfl, rfl, by decide⟩ rfl ?_
      refine Wq.ifne (tgt := 84) dX5_go_57 (by decide) (fun q5 => ?_) (fun q5 => ?_)
      · replace h := h.1 q5
        refine Wq.iconst (v := 0) dX5_go_84 (by decide) ?_
        refine Wq.istore_n (ls2 := [some (pO 20 9 0), some (pI x1), some (pI (x2 + 0)), some (pI 0), some (pI 0), none]) dX5_go_85 (by decide) rfl ?_
        refine Wq.iload_n (x := 0) dX5_go_86 rfl ?_
        refine Wq.ifeq (tgt := 113) dX5_go_87 (by decide) (fun _ => ?_) (fun q9 => absurd q9 (by decide))
        refine Wq.goto (tgt := 14) dX5_go_113 (by decide) ?_
        refine Wq.few (ls' := [some (pO 20 9 0), some (pI x1), some (pI (x2 + 0)), some (pI 0), none, none]) ⟨rfl, ⟨rfl, ⟨rfl, ⟨rfl, trivial⟩⟩⟩⟩ ?_
        exact h
      · replace h := h.2 q5
        refine Wq.iload (x := 0) dX5_go_60 rfl ?_
        refine Wq.ifne (tgt := 69) dX5_go_62 (by decide) (fun q9 => absurd q9 (by decide)) (fun _ => ?_)
        refine Wq.iload_n (x := x1) dX5_go_65 rfl ?_
        refine Wq.ifne (tgt := 84) dX5_go_66 (by decide) (fun q6 => ?_) (fun q6 => ?_)
        · replace h := h.1 q6
          refine Wq.iconst (v := 0) dX5_go_84 (by decide) ?_
          refine Wq.istore_n (ls2 := [some (pO 20 9 0), some (pI x1), some (pI (x2 + 0)), some (pI 0), some (pI 0), none]) dX5_go_85 (by decide) rfl ?_
          refine Wq.iload_n (x := 0) dX5_go_86 rfl ?_
          refine Wq.ifeq (tgt := 113) dX5_go_87 (by decide) (fun _ => ?_) (fun q9 => absurd q9 (by decide))
          refine Wq.goto (tgt := 14) dX5_go_113 (by decide) ?_
          refine Wq.few (ls' := [some (pO 20 9 0), some (pI x1), some (pI (x2 + 0)), some (pI 0), none, none]) ⟨rfl, ⟨rfl, ⟨rfl, ⟨rfl, trivial⟩⟩⟩⟩ ?_
          exact h
        · replace h := h.2 q6
          refine Wq.aload_n (t := 20) (r := 9) (j := 0) dX5_go_69 rfl ?_
          refine Wq.getf (v := pI (m3.1 9 20 0 8)) dX5_go_70 fl_X5_150 ⟨rfl, rfl, by decide⟩ rfl ?_
          refine Wq.aload_n (t := 20) (r := 9) (j := 0) dX5_go_73 rfl ?_
          refine Wq.getf (v := pI (m3.1 9 20 0 6)) dX5_go_74 fl_X5_147 ⟨rfl, rfl, by decide⟩ rfl ?_
          refine Wq.icmpge (tgt := 84) dX5_go_77 (by decide) (fun q7 => ?_) (fun q7 => ?_)
          · replace h := h.1 q7
            refine Wq.iconst (v := 0) dX5_go_84 (by decide) ?_
            refine Wq.istore_n (ls2 := [some (pO 20 9 0), some (pI x1), some (pI (x2 + 0)), some (pI 0), some (pI 0), none]) dX5_go_85 (by decide) rfl ?_
            refine Wq.iload_n (x := 0) dX5_go_86 rfl ?_
            refine Wq.ifeq (tgt := 113) dX5_go_87 (by decide) (fun _ => ?_) (fun q9 => absurd q9 (by decide))
            refine Wq.goto (tgt := 14) dX5_go_113 (by decide) ?_
            refine Wq.few (ls' := [some (pO 20 9 0), some (pI x1), some (pI (x2 + 0)), some (pI 0), none, none]) ⟨rfl, ⟨rfl, ⟨rfl, ⟨rfl, trivial⟩⟩⟩⟩ ?_
            exact h
          · replace h := h.2 q7
            refine Wq.iconst (v := 1) dX5_go_80 (by decide) ?_
            refine Wq.goto (tgt := 85) dX5_go_81 (by decide) ?_
            refine Wq.istore_n (ls2 := [some (pO 20 9 0), some (pI x1), some (pI (x2 + 0)), some (pI 1), some (pI 0), none]) dX5_go_85 (by decide) rfl ?_
            refine Wq.iload_n (x := 1) dX5_go_86 rfl ?_
            refine Wq.ifeq (tgt := 113) dX5_go_87 (by decide) (fun q9 => absurd q9 (by decide)) (fun _ => ?_)
            refine Wq.aload_n (t := 20) (r := 9) (j := 0) dX5_go_90 rfl ?_
            refine Wq.bipush (v := 59) dX5_go_91 (by decide) ?_
            refine Wq.bipush (v := 59) dX5_go_93 (by decide) ?_
            refine Wq.callVI (As := [pI 59, pI 59]) dX5_go_95 fX5_sign ml_X5_158 rfl (by decide) rfl (Nat.le_of_ble_eq_true rfl) (Nat.le_of_ble_eq_true rfl) h (fun r8 m9 h => ?_)
            refine Wq.istore (ls2 := [some (pO 20 9 0), some (pI x1), some (pI (x2 + 0)), some (pI 1), some (pI 0), some (pI r8)]) dX5_go_98 (by decide) rfl ?_
            refine Wq.aload_n (t := 20) (r := 9) (j := 0) dX5_go_100 rfl ?_
            refine Wq.getf (v := pI (m9.1 9 20 0 9)) dX5_go_101 fl_X5_153 ⟨rfl, rfl, by decide⟩ rfl ?_
            refine Wq.ifne (tgt := 111) dX5_go_104 (by decide) (fun q10 => ?_) (fun q10 => ?_)
            · replace h := h.1 q10
              refine Wq.iconst (v := 0) dX5_go_111 (by decide) ?_
              refine Wq.istore_n (ls2 := [some (pO 20 9 0), some (pI x1), some (pI (x2 + 0)), some (pI 0), some (pI 0), some (pI r8)]) dX5_go_112 (by decide) rfl ?_
              refine Wq.goto (tgt := 14) dX5_go_113 (by decide) ?_
              refine Wq.few (ls' := [some (pO 20 9 0), some (pI x1), some (pI (x2 + 0)), some (pI 0), none, none]) ⟨rfl, ⟨rfl, ⟨rfl, ⟨rfl, trivial⟩⟩⟩⟩ ?_
              exact h
            · replace h := h.2 q10
              refine Wq.iconst (v := 1) dX5_go_107 (by decide) ?_
              refine Wq.goto (tgt := 112) dX5_go_108 (by decide) ?_
              refine Wq.istore_n (ls2 := [some (pO 20 9 0), some (pI x1), some (pI (x2 + 0)), some (pI 1), some (pI 0), some (pI r8)]) dX5_go_112 (by decide) rfl ?_
              refine Wq.goto (tgt := 14) dX5_go_113 (by decide) ?_
              refine Wq.few (ls' := [some (pO 20 9 0), some (pI x1), some (pI (x2 + 0)), some (pI 1), none, none]) ⟨rfl, ⟨rfl, ⟨rfl, ⟨rfl, trivial⟩⟩⟩⟩ ?_
              exact h
    · replace h := h.2 q4
      refine Wq.aload_n (t := 20) (r := 9) (j := 0) dX5_go_26 rfl ?_
      refine Wq.callVI (As := []) dX5_go_27 fX5_does ml_X5_170 rfl (by decide) rfl (Nat.le_of_ble_eq_true rfl) (Nat.le_of_ble_eq_true rfl) h (fun r11 m12 h => ?_)
      refine Wq.ifeq (tgt := 37) dX5_go_30 (by decide) (fun q13 => ?_) (fun q13 => ?_)
      · replace h := h.1 q13
        refine Wq.iconst (v := 0) dX5_go_37 (by decide) ?_
        refine Wq.istore (ls2 := [some (pO 20 9 0), some (pI x1), some (pI x2), some (pI x3), some (pI 0), none]) dX5_go_38 (by decide) rfl ?_
        refine Wq.iload_n (x := x2) dX5_go_40 rfl ?_
        refine Wq.iload (x := 0) dX5_go_41 rfl ?_
        refine Wq.ifeq (tgt := 50) dX5_go_43 (by decide) (fun _ => ?_) (fun q9 => absurd q9 (by decide))
        refine Wq.iconst (v := 0) dX5_go_50 (by decide) ?_
        refine Wq.iadd dX5_go_51 ?_
        refine Wq.istore_n (ls2 := [some (pO 20 9 0), some (pI x1), some (pI (x2 + 0)), some (pI x3), some (pI 0), none]) dX5_go_52 (by decide) rfl ?_
        refine Wq.aload_n (t := 20) (r := 9) (j := 0) dX5_go_53 rfl ?_
        refine Wq.getf (v := pI (m12.1 9 20 0 9)) dX5_go_54 fl_X5_153 ⟨rfl, rfl, by decide⟩ rfl ?_
        refine Wq.ifne (tgt := 84) dX5_go_57 (by decide) (fun q14 => ?_) (fun q14 => ?_)
        · replace h := h.1 q14
          refine Wq.iconst (v := 0) dX5_go_84 (by decide) ?_
          refine Wq.istore_n (ls2 := [some (pO 20 9 0), some (pI x1), some (pI (x2 + 0)), some (pI 0), some (pI 0), none]) dX5_go_85 (by decide) rfl ?_
          refine Wq.iload_n (x := 0) dX5_go_86 rfl ?_
          refine Wq.ifeq (tgt := 113) dX5_go_87 (by decide) (fun _ => ?_) (fun q9 => absurd q9 (by decide))
          refine Wq.goto (tgt := 14) dX5_go_113 (by decide) ?_
          refine Wq.few (ls' := [some (pO 20 9 0), some (pI x1), some (pI (x2 + 0)), some (pI 0), none, none]) ⟨rfl, ⟨rfl, ⟨rfl, ⟨rfl, trivial⟩⟩⟩⟩ ?_
          exact h
        · replace h := h.2 q14
          refine Wq.iload (x := 0) dX5_go_60 rfl ?_
          refine Wq.ifne (tgt := 69) dX5_go_62 (by decide) (fun q9 => absurd q9 (by decide)) (fun _ => ?_)
          refine Wq.iload_n (x := x1) dX5_go_65 rfl ?_
          refine Wq.ifne (tgt := 84) dX5_go_66 (by decide) (fun q15 => ?_) (fun q15 => ?_)
          · replace h := h.1 q15
            refine Wq.iconst (v := 0) dX5_go_84 (by decide) ?_
            refine Wq.istore_n (ls2 := [some (pO 20 9 0), some (pI x1), some (pI (x2 + 0)), some (pI 0), some (pI 0), none]) dX5_go_85 (by decide) rfl ?_
            refine Wq.iload_n (x := 0) dX5_go_86 rfl ?_
            refine Wq.ifeq (tgt := 113) dX5_go_87 (by decide) (fun _ => ?_) (fun q9 => absurd q9 (by decide))
            refine Wq.goto (tgt := 14) dX5_go_113 (by decide) ?_
            refine Wq.few (ls' := [some (pO 20 9 0), some (pI x1), some (pI (x2 + 0)), some (pI 0), none, none]) ⟨rfl, ⟨rfl, ⟨rfl, ⟨rfl, trivial⟩⟩⟩⟩ ?_
            exact h
          · replace h := h.2 q15
            refine Wq.aload_n (t := 20) (r := 9) (j := 0) dX5_go_69 rfl ?_
            refine Wq.getf (v := pI (m12.1 9 20 0 8)) dX5_go_70 fl_X5_150 ⟨rfl, rfl, by decide⟩ rfl ?_
            refine Wq.aload_n (t := 20) (r := 9) (j := 0) dX5_go_73 rfl ?_
            refine Wq.getf (v := pI (m12.1 9 20 0 6)) dX5_go_74 fl_X5_147 ⟨rfl, rfl, by decide⟩ rfl ?_
            refine Wq.icmpge (tgt := 84) dX5_go_77 (by decide) (fun q16 => ?_) (fun q16 => ?_)
            · replace h := h.1 q16
              refine Wq.iconst (v := 0) dX5_go_84 (by decide) ?_
              refine Wq.istore_n (ls2 := [some (pO 20 9 0), some (pI x1), some (pI (x2 + 0)), some (pI 0), some (pI 0), none]) dX5_go_85 (by decide) rfl ?_
              refine Wq.iload_n (x := 0) dX5_go_86 rfl ?_
              refine Wq.ifeq (tgt := 113) dX5_go_87 (by decide) (fun _ => ?_) (fun q9 => absurd q9 (by decide))
              refine Wq.goto (tgt := 14) dX5_go_113 (by decide) ?_
              refine Wq.few (ls' := [some (pO 20 9 0), some (pI x1), some (pI (x2 + 0)), some (pI 0), none, none]) ⟨rfl, ⟨rfl, ⟨rfl, ⟨rfl, trivial⟩⟩⟩⟩ ?_
              exact h
            · replace h := h.2 q16
              refine Wq.iconst (v := 1) dX5_go_80 (by decide) ?_
              refine Wq.goto (tgt := 85) dX5_go_81 (by decide) ?_
              refine Wq.istore_n (ls2 := [some (pO 20 9 0), some (pI x1), some (pI (x2 + 0)), some (pI 1), some (pI 0), none]) dX5_go_85 (by decide) rfl ?_
              refine Wq.iload_n (x := 1) dX5_go_86 rfl ?_
              refine Wq.ifeq (tgt := 113) dX5_go_87 (by decide) (fun q9 => absurd q9 (by decide)) (fun _ => ?_)
              refine Wq.aload_n (t := 20) (r := 9) (j := 0) dX5_go_90 rfl ?_
              refine Wq.bipush (v := 59) dX5_go_91 (by decide) ?_
              refine Wq.bipush (v := 59) dX5_go_93 (by decide) ?_
              refine Wq.callVI (As := [pI 59, pI 59]) dX5_go_95 fX5_sign ml_X5_158 rfl (by decide) rfl (Nat.le_of_ble_eq_true rfl) (Nat.le_of_ble_eq_true rfl) h (fun r17 m18 h => ?_)
              refine Wq.istore (ls2 := [some (pO 20 9 0), some (pI x1), some (pI (x2 + 0)), some (pI 1), some (pI 0), some (pI r17)]) dX5_go_98 (by decide) rfl ?_
              refine Wq.aload_n (t := 20) (r := 9) (j := 0) dX5_go_100 rfl ?_
              refine Wq.getf (v := pI (m18.1 9 20 0 9)) dX5_go_101 fl_X5_153 ⟨rfl, rfl, by decide⟩ rfl ?_
              refine Wq.ifne (tgt := 111) dX5_go_104 (by decide) (fun q19 => ?_) (fun q19 => ?_)
              · replace h := h.1 q19
                refine Wq.iconst (v := 0) dX5_go_111 (by decide) ?_
                refine Wq.istore_n (ls2 := [some (pO 20 9 0), some (pI x1), some (pI (x2 + 0)), some (pI 0), some (pI 0), some (pI r17)]) dX5_go_112 (by decide) rfl ?_
                refine Wq.goto (tgt := 14) dX5_go_113 (by decide) ?_
                refine Wq.few (ls' := [some (pO 20 9 0), some (pI x1), some (pI (x2 + 0)), some (pI 0), none, none]) ⟨rfl, ⟨rfl, ⟨rfl, ⟨rfl, trivial⟩⟩⟩⟩ ?_
                exact h
              · replace h := h.2 q19
                refine Wq.iconst (v := 1) dX5_go_107 (by decide) ?_
                refine Wq.goto (tgt := 112) dX5_go_108 (by decide) ?_
                refine Wq.istore_n (ls2 := [some (pO 20 9 0), some (pI x1), some (pI (x2 + 0)), some (pI 1), some (pI 0), some (pI r17)]) dX5_go_112 (by decide) rfl ?_
                refine Wq.goto (tgt := 14) dX5_go_113 (by decide) ?_
                refine Wq.few (ls' := [some (pO 20 9 0), some (pI x1), some (pI (x2 + 0)), some (pI 1), none, none]) ⟨rfl, ⟨rfl, ⟨rfl, ⟨rfl, trivial⟩⟩⟩⟩ ?_
                exact h
      · replace h := h.2 q13
        refine Wq.iconst (v := 1) dX5_go_33 (by decide) ?_
        refine Wq.goto (tgt := 38) dX5_go_34 (by decide) ?_
        refine Wq.istore (ls2 := [some (pO 20 9 0), some (pI x1), some (pI x2), some (pI x3), some (pI 1), none]) dX5_go_38 (by decide) rfl ?_
        refine Wq.iload_n (x := x2) dX5_go_40 rfl ?_
        refine Wq.iload (x := 1) dX5_go_41 rfl ?_
        refine Wq.ifeq (tgt := 50) dX5_go_43 (by decide) (fun q9 => absurd q9 (by decide)) (fun _ => ?_)
        refine Wq.iconst (v := 1) dX5_go_46 (by decide) ?_
        refine Wq.goto (tgt := 51) dX5_go_47 (by decide) ?_
        refine Wq.iadd dX5_go_51 ?_
        refine Wq.istore_n (ls2 := [some (pO 20 9 0), some (pI x1), some (pI (x2 + 1)), some (pI x3), some (pI 1), none]) dX5_go_52 (by decide) rfl ?_
        refine Wq.aload_n (t := 20) (r := 9) (j := 0) dX5_go_53 rfl ?_
        refine Wq.getf (v := pI (m12.1 9 20 0 9)) dX5_go_54 fl_X5_153 ⟨rfl, rfl, by decide⟩ rfl ?_
        refine Wq.ifne (tgt := 84) dX5_go_57 (by decide) (fun q20 => ?_) (fun q20 => ?_)
        · replace h := h.1 q20
          refine Wq.iconst (v := 0) dX5_go_84 (by decide) ?_
          refine Wq.istore_n (ls2 := [some (pO 20 9 0), some (pI x1), some (pI (x2 + 1)), some (pI 0), some (pI 1), none]) dX5_go_85 (by decide) rfl ?_
          refine Wq.iload_n (x := 0) dX5_go_86 rfl ?_
          refine Wq.ifeq (tgt := 113) dX5_go_87 (by decide) (fun _ => ?_) (fun q9 => absurd q9 (by decide))
          refine Wq.goto (tgt := 14) dX5_go_113 (by decide) ?_
          refine Wq.few (ls' := [some (pO 20 9 0), some (pI x1), some (pI (x2 + 1)), some (pI 0), none, none]) ⟨rfl, ⟨rfl, ⟨rfl, ⟨rfl, trivial⟩⟩⟩⟩ ?_
          exact h
        · replace h := h.2 q20
          refine Wq.iload (x := 1) dX5_go_60 rfl ?_
          refine Wq.ifne (tgt := 69) dX5_go_62 (by decide) (fun _ => ?_) (fun q9 => absurd q9 (by decide))
          refine Wq.aload_n (t := 20) (r := 9) (j := 0) dX5_go_69 rfl ?_
          refine Wq.getf (v := pI (m12.1 9 20 0 8)) dX5_go_70 fl_X5_150 ⟨rfl, rfl, by decide⟩ rfl ?_
          refine Wq.aload_n (t := 20) (r := 9) (j := 0) dX5_go_73 rfl ?_
          refine Wq.getf (v := pI (m12.1 9 20 0 6)) dX5_go_74 fl_X5_147 ⟨rfl, rfl, by decide⟩ rfl ?_
          refine Wq.icmpge (tgt := 84) dX5_go_77 (by decide) (fun q21 => ?_) (fun q21 => ?_)
          · replace h := h.1 q21
            refine Wq.iconst (v := 0) dX5_go_84 (by decide) ?_
            refine Wq.istore_n (ls2 := [some (pO 20 9 0), some (pI x1), some (pI (x2 + 1)), some (pI 0), some (pI 1), none]) dX5_go_85 (by decide) rfl ?_
            refine Wq.iload_n (x := 0) dX5_go_86 rfl ?_
            refine Wq.ifeq (tgt := 113) dX5_go_87 (by decide) (fun _ => ?_) (fun q9 => absurd q9 (by decide))
            refine Wq.goto (tgt := 14) dX5_go_113 (by decide) ?_
            refine Wq.few (ls' := [some (pO 20 9 0), some (pI x1), some (pI (x2 + 1)), some (pI 0), none, none]) ⟨rfl, ⟨rfl, ⟨rfl, ⟨rfl, trivial⟩⟩⟩⟩ ?_
            exact h
          · replace h := h.2 q21
            refine Wq.iconst (v := 1) dX5_go_80 (by decide) ?_
            refine Wq.goto (tgt := 85) dX5_go_81 (by decide) ?_
            refine Wq.istore_n (ls2 := [some (pO 20 9 0), some (pI x1), some (pI (x2 + 1)), some (pI 1), some (pI 1), none]) dX5_go_85 (by decide) rfl ?_
            refine Wq.iload_n (x := 1) dX5_go_86 rfl ?_
            refine Wq.ifeq (tgt := 113) dX5_go_87 (by decide) (fun q9 => absurd q9 (by decide)) (fun _ => ?_)
            refine Wq.aload_n (t := 20) (r := 9) (j := 0) dX5_go_90 rfl ?_
            refine Wq.bipush (v := 59) dX5_go_91 (by decide) ?_
            refine Wq.bipush (v := 59) dX5_go_93 (by decide) ?_
            refine Wq.callVI (As := [pI 59, pI 59]) dX5_go_95 fX5_sign ml_X5_158 rfl (by decide) rfl (Nat.le_of_ble_eq_true rfl) (Nat.le_of_ble_eq_true rfl) h (fun r22 m23 h => ?_)
            refine Wq.istore (ls2 := [some (pO 20 9 0), some (pI x1), some (pI (x2 + 1)), some (pI 1), some (pI 1), some (pI r22)]) dX5_go_98 (by decide) rfl ?_
            refine Wq.aload_n (t := 20) (r := 9) (j := 0) dX5_go_100 rfl ?_
            refine Wq.getf (v := pI (m23.1 9 20 0 9)) dX5_go_101 fl_X5_153 ⟨rfl, rfl, by decide⟩ rfl ?_
            refine Wq.ifne (tgt := 111) dX5_go_104 (by decide) (fun q24 => ?_) (fun q24 => ?_)
            · replace h := h.1 q24
              refine Wq.iconst (v := 0) dX5_go_111 (by decide) ?_
              refine Wq.istore_n (ls2 := [some (pO 20 9 0), some (pI x1), some (pI (x2 + 1)), some (pI 0), some (pI 1), some (pI r22)]) dX5_go_112 (by decide) rfl ?_
              refine Wq.goto (tgt := 14) dX5_go_113 (by decide) ?_
              refine Wq.few (ls' := [some (pO 20 9 0), some (pI x1), some (pI (x2 + 1)), some (pI 0), none, none]) ⟨rfl, ⟨rfl, ⟨rfl, ⟨rfl, trivial⟩⟩⟩⟩ ?_
              exact h
            · replace h := h.2 q24
              refine Wq.iconst (v := 1) dX5_go_107 (by decide) ?_
              refine Wq.goto (tgt := 112) dX5_go_108 (by decide) ?_
              refine Wq.istore_n (ls2 := [some (pO 20 9 0), some (pI x1), some (pI (x2 + 1)), some (pI 1), some (pI 1), some (pI r22)]) dX5_go_112 (by decide) rfl ?_
              refine Wq.goto (tgt := 14) dX5_go_113 (by decide) ?_
              refine Wq.few (ls' := [some (pO 20 9 0), some (pI x1), some (pI (x2 + 1)), some (pI 1), none, none]) ⟨rfl, ⟨rfl, ⟨rfl, ⟨rfl, trivial⟩⟩⟩⟩ ?_
              exact h
set_option maxHeartbeats 4000000 in
set_option maxRecDepth 20000 in
theorem sgX5_ifCancelled {g : GG} {d : Nat} {c n : Nat} {m : PM} {Q : Ou → PM → Nat → Nat → Prop} {x1 : Int32} {x2 : Int32} {x3 : Int32} (h : (((¬ x1 < (0 : Int32)) ∧ (¬ ((m.1 9 21 0 (ix 1)) - 1) < x1) → ((¬ ((¬ x2 < (0 : Int32)) ∧ (¬ (9 : Int32) < x2)) → Q (.inl (some (pI 0))) (setI m 20 9 0 0 2) c n) ∧ ((¬ x2 < (0 : Int32)) ∧ (¬ (9 : Int32) < x2) → (((¬ x3 < (0 : Int32)) ∧ (¬ (2 : Int32) < x3) → Wp g (d + 6) MX5_cancelled 0 [some (pO 20 9 0), some (pI x1), some (pI x2), some (pI x3)] [] (setI m 20 9 0 0 0) (cI fun r4 m5 => Q (.inl (some (pI r4))) m5 c n)) ∧ (¬ ((¬ x3 < (0 : Int32)) ∧ (¬ (2 : Int32) < x3)) → Q (.inl (some (pI 0))) (setI m 20 9 0 0 2) c n))))) ∧ (¬ ((¬ x1 < (0 : Int32)) ∧ (¬ ((m.1 9 21 0 (ix 1)) - 1) < x1)) → Q (.inl (some (pI 0))) (setI m 20 9 0 0 1) c n))) : Wq g (d + 7) MX5_ifCancelled c n 0 [some (pO 20 9 0), some (pI x1), some (pI x2), some (pI x3)] [] m Q := by
  refine Wq.few (ls' := [some (pO 20 9 0), some (pI x1), some (pI x2), some (pI x3), none]) ⟨rfl, ⟨rfl, ⟨rfl, ⟨rfl, trivial⟩⟩⟩⟩ ?_
  refine Wq.aload_n (t := 20) (r := 9) (j := 0) dX5_ifCancelled_0 rfl ?_
  refine Wq.iload_n (x := x1) dX5_ifCancelled_1 rfl ?_
  refine Wq.callVI (As := [pI x1]) dX5_ifCancelled_2 fX5_isExaminer ml_X5_121 rfl (by decide) rfl (Nat.le_of_ble_eq_true rfl) (Nat.le_of_ble_eq_true rfl) (suX5_isExaminer trivial) (fun x8 m9 e9 => ?_)
  obtain ⟨rfl, rfl⟩ := e9
  refine Wq.ifne (tgt := 12) dX5_ifCancelled_5 (by decide) (fun q1 => ?_) (fun q1 => ?_)
  · replace h := h.1 (bI_1 q1)
    refine Wq.iload_n (x := x2) dX5_ifCancelled_12 rfl ?_
    refine Wq.iconst (v := 0) dX5_ifCancelled_13 (by decide) ?_
    refine Wq.bipush (v := 9) dX5_ifCancelled_14 (by decide) ?_
    refine Wq.callSI (As := [pI x2, pI 0, pI 9]) dX5_ifCancelled_16 fX5_in ml_X5_45 rfl (Nat.le_of_ble_eq_true rfl) (Nat.le_of_ble_eq_true rfl) (suX5_in trivial) (fun x7 m9 e9 => ?_)
    obtain ⟨rfl, rfl⟩ := e9
    refine Wq.ifeq (tgt := 31) dX5_ifCancelled_19 (by decide) (fun q2 => ?_) (fun q2 => ?_)
    · replace h := h.1 (bI_0 q2)
      refine Wq.iconst (v := 2) dX5_ifCancelled_31 (by decide) ?_
      refine Wq.goto (tgt := 36) dX5_ifCancelled_32 (by decide) ?_
      refine Wq.istore (ls2 := [some (pO 20 9 0), some (pI x1), some (pI x2), some (pI x3), some (pI 2)]) dX5_ifCancelled_36 (by decide) rfl ?_
      refine Wq.aload_n (t := 20) (r := 9) (j := 0) dX5_ifCancelled_38 rfl ?_
      refine Wq.iload (x := 2) dX5_ifCancelled_39 rfl ?_
      refine Wq.callVI (As := [pI 2]) dX5_ifCancelled_41 fX5_holds ml_X5_86 rfl (by decide) rfl (Nat.le_of_ble_eq_true rfl) (Nat.le_of_ble_eq_true rfl) ?_ (fun _ _ h9 => h9)
      refine Wq.few (ls' := [some (pO 20 9 0), some (pI 2)]) ⟨rfl, ⟨rfl, trivial⟩⟩ ?_
      refine Wq.aload_n (t := 20) (r := 9) (j := 0) dX5_holds_0 rfl ?_
      refine Wq.iload_n (x := 2) dX5_holds_1 rfl ?_
      refine Wq.putI dX5_holds_2 fw_X5_41 ⟨rfl, rfl, by decide⟩ ⟨rfl, by decide, by decide⟩ ⟨rfl, rfl⟩ ?_
      refine Wq.iload_n (x := 2) dX5_holds_5 rfl ?_
      refine Wq.ifne (tgt := 13) dX5_holds_6 (by decide) (fun _ => ?_) (fun q9 => absurd q9 (by decide))
      refine Wq.iconst (v := 0) dX5_holds_13 (by decide) ?_
      refine Wq.iretI dX5_holds_14 (⟨_, rfl, by decide⟩) ?_
      refine Wq.ifeq (tgt := 57) dX5_ifCancelled_44 (by decide) (fun _ => ?_) (fun q9 => absurd q9 (by decide))
      refine Wq.iconst (v := 0) dX5_ifCancelled_57 (by decide) ?_
      exact Wq.iret dX5_ifCancelled_58 (⟨_, rfl, rfl⟩) h
    · replace h := h.2 (bI_1 q2)
      refine Wq.iload_n (x := x3) dX5_ifCancelled_22 rfl ?_
      refine Wq.iconst (v := 0) dX5_ifCancelled_23 (by decide) ?_
      refine Wq.iconst (v := 2) dX5_ifCancelled_24 (by decide) ?_
      refine Wq.callSI (As := [pI x3, pI 0, pI 2]) dX5_ifCancelled_25 fX5_in ml_X5_45 rfl (Nat.le_of_ble_eq_true rfl) (Nat.le_of_ble_eq_true rfl) (suX5_in trivial) (fun x6 m9 e9 => ?_)
      obtain ⟨rfl, rfl⟩ := e9
      refine Wq.ifne (tgt := 35) dX5_ifCancelled_28 (by decide) (fun q3 => ?_) (fun q3 => ?_)
      · replace h := h.1 (bI_1 q3)
        refine Wq.iconst (v := 0) dX5_ifCancelled_35 (by decide) ?_
        refine Wq.istore (ls2 := [some (pO 20 9 0), some (pI x1), some (pI x2), some (pI x3), some (pI 0)]) dX5_ifCancelled_36 (by decide) rfl ?_
        refine Wq.aload_n (t := 20) (r := 9) (j := 0) dX5_ifCancelled_38 rfl ?_
        refine Wq.iload (x := 0) dX5_ifCancelled_39 rfl ?_
        refine Wq.callVI (As := [pI 0]) dX5_ifCancelled_41 fX5_holds ml_X5_86 rfl (by decide) rfl (Nat.le_of_ble_eq_true rfl) (Nat.le_of_ble_eq_true rfl) ?_ (fun _ _ h9 => h9)
        refine Wq.few (ls' := [some (pO 20 9 0), some (pI 0)]) ⟨rfl, ⟨rfl, trivial⟩⟩ ?_
        refine Wq.aload_n (t := 20) (r := 9) (j := 0) dX5_holds_0 rfl ?_
        refine Wq.iload_n (x := 0) dX5_holds_1 rfl ?_
        refine Wq.putI dX5_holds_2 fw_X5_41 ⟨rfl, rfl, by decide⟩ ⟨rfl, by decide, by decide⟩ ⟨rfl, rfl⟩ ?_
        refine Wq.iload_n (x := 0) dX5_holds_5 rfl ?_
        refine Wq.ifne (tgt := 13) dX5_holds_6 (by decide) (fun q9 => absurd q9 (by decide)) (fun _ => ?_)
        refine Wq.iconst (v := 1) dX5_holds_9 (by decide) ?_
        refine Wq.goto (tgt := 14) dX5_holds_10 (by decide) ?_
        refine Wq.iretI dX5_holds_14 (⟨_, rfl, by decide⟩) ?_
        refine Wq.ifeq (tgt := 57) dX5_ifCancelled_44 (by decide) (fun q9 => absurd q9 (by decide)) (fun _ => ?_)
        refine Wq.aload_n (t := 20) (r := 9) (j := 0) dX5_ifCancelled_47 rfl ?_
        refine Wq.iload_n (x := x1) dX5_ifCancelled_48 rfl ?_
        refine Wq.iload_n (x := x2) dX5_ifCancelled_49 rfl ?_
        refine Wq.iload_n (x := x3) dX5_ifCancelled_50 rfl ?_
        refine Wq.callVI (As := [pI x1, pI x2, pI x3]) dX5_ifCancelled_51 fX5_cancelled ml_X5_203 rfl (by decide) rfl (Nat.le_of_ble_eq_true rfl) (Nat.le_of_ble_eq_true rfl) h (fun r4 m5 h => ?_)
        refine Wq.goto (tgt := 58) dX5_ifCancelled_54 (by decide) ?_
        exact Wq.iret dX5_ifCancelled_58 (⟨_, rfl, rfl⟩) h
      · replace h := h.2 (bI_0 q3)
        refine Wq.iconst (v := 2) dX5_ifCancelled_31 (by decide) ?_
        refine Wq.goto (tgt := 36) dX5_ifCancelled_32 (by decide) ?_
        refine Wq.istore (ls2 := [some (pO 20 9 0), some (pI x1), some (pI x2), some (pI x3), some (pI 2)]) dX5_ifCancelled_36 (by decide) rfl ?_
        refine Wq.aload_n (t := 20) (r := 9) (j := 0) dX5_ifCancelled_38 rfl ?_
        refine Wq.iload (x := 2) dX5_ifCancelled_39 rfl ?_
        refine Wq.callVI (As := [pI 2]) dX5_ifCancelled_41 fX5_holds ml_X5_86 rfl (by decide) rfl (Nat.le_of_ble_eq_true rfl) (Nat.le_of_ble_eq_true rfl) ?_ (fun _ _ h9 => h9)
        refine Wq.few (ls' := [some (pO 20 9 0), some (pI 2)]) ⟨rfl, ⟨rfl, trivial⟩⟩ ?_
        refine Wq.aload_n (t := 20) (r := 9) (j := 0) dX5_holds_0 rfl ?_
        refine Wq.iload_n (x := 2) dX5_holds_1 rfl ?_
        refine Wq.putI dX5_holds_2 fw_X5_41 ⟨rfl, rfl, by decide⟩ ⟨rfl, by decide, by decide⟩ ⟨rfl, rfl⟩ ?_
        refine Wq.iload_n (x := 2) dX5_holds_5 rfl ?_
        refine Wq.ifne (tgt := 13) dX5_holds_6 (by decide) (fun _ => ?_) (fun q9 => absurd q9 (by decide))
        refine Wq.iconst (v := 0) dX5_holds_13 (by decide) ?_
        refine Wq.iretI dX5_holds_14 (⟨_, rfl, by decide⟩) ?_
        refine Wq.ifeq (tgt := 57) dX5_ifCancelled_44 (by decide) (fun _ => ?_) (fun q9 => absurd q9 (by decide))
        refine Wq.iconst (v := 0) dX5_ifCancelled_57 (by decide) ?_
        exact Wq.iret dX5_ifCancelled_58 (⟨_, rfl, rfl⟩) h
  · replace h := h.2 (bI_0 q1)
    refine Wq.iconst (v := 1) dX5_ifCancelled_8 (by decide) ?_
    refine Wq.goto (tgt := 36) dX5_ifCancelled_9 (by decide) ?_
    refine Wq.istore (ls2 := [some (pO 20 9 0), some (pI x1), some (pI x2), some (pI x3), some (pI 1)]) dX5_ifCancelled_36 (by decide) rfl ?_
    refine Wq.aload_n (t := 20) (r := 9) (j := 0) dX5_ifCancelled_38 rfl ?_
    refine Wq.iload (x := 1) dX5_ifCancelled_39 rfl ?_
    refine Wq.callVI (As := [pI 1]) dX5_ifCancelled_41 fX5_holds ml_X5_86 rfl (by decide) rfl (Nat.le_of_ble_eq_true rfl) (Nat.le_of_ble_eq_true rfl) ?_ (fun _ _ h9 => h9)
    refine Wq.few (ls' := [some (pO 20 9 0), some (pI 1)]) ⟨rfl, ⟨rfl, trivial⟩⟩ ?_
    refine Wq.aload_n (t := 20) (r := 9) (j := 0) dX5_holds_0 rfl ?_
    refine Wq.iload_n (x := 1) dX5_holds_1 rfl ?_
    refine Wq.putI dX5_holds_2 fw_X5_41 ⟨rfl, rfl, by decide⟩ ⟨rfl, by decide, by decide⟩ ⟨rfl, rfl⟩ ?_
    refine Wq.iload_n (x := 1) dX5_holds_5 rfl ?_
    refine Wq.ifne (tgt := 13) dX5_holds_6 (by decide) (fun _ => ?_) (fun q9 => absurd q9 (by decide))
    refine Wq.iconst (v := 0) dX5_holds_13 (by decide) ?_
    refine Wq.iretI dX5_holds_14 (⟨_, rfl, by decide⟩) ?_
    refine Wq.ifeq (tgt := 57) dX5_ifCancelled_44 (by decide) (fun _ => ?_) (fun q9 => absurd q9 (by decide))
    refine Wq.iconst (v := 0) dX5_ifCancelled_57 (by decide) ?_
    exact Wq.iret dX5_ifCancelled_58 (⟨_, rfl, rfl⟩) h
set_option maxHeartbeats 4000000 in
set_option maxRecDepth 20000 in
theorem sgX5_digest {g : GG} {d : Nat} {c n : Nat} {m : PM} {Q : Ou → PM → Nat → Nat → Prop}  (h : Wq g (d + 7) MX5_digest c n 14 [some (pO 20 9 0), some (pI 0), none] [] (setL (setI m 20 9 0 0 0) 1 2731) Q) : Wq g (d + 7) MX5_digest c n 0 [some (pO 20 9 0)] [] m Q := by
  refine Wq.few (ls' := [some (pO 20 9 0), none, none]) ⟨rfl, trivial⟩ ?_
  refine Wq.aload_n (t := 20) (r := 9) (j := 0) dX5_digest_0 rfl ?_
  refine Wq.iconst (v := 0) dX5_digest_1 (by decide) ?_
  refine Wq.putI dX5_digest_2 fw_X5_41 ⟨rfl, rfl, by decide⟩ ⟨rfl, by decide, by decide⟩ ⟨rfl, rfl⟩ ?_
  refine Wq.aload_n (t := 20) (r := 9) (j := 0) dX5_digest_5 rfl ?_
  refine Wq.ldc2 dX5_digest_6 lc_X5_230 ?_
  refine Wq.putDig dX5_digest_9 fw_X5_226 ?_
  refine Wq.iconst (v := 0) dX5_digest_12 (by decide) ?_
  refine Wq.istore_n (ls2 := [some (pO 20 9 0), some (pI 0), none]) dX5_digest_13 (by decide) rfl ?_
  exact h
set_option maxHeartbeats 4000000 in
set_option maxRecDepth 20000 in
theorem sgX5_digest_14 {g : GG} {d : Nat} {c n : Nat} {m : PM} {Q : Ou → PM → Nat → Nat → Prop} {x1 : Int32} (h : ((15 ≤ x1 → Wq g (d + 7) MX5_digest c n 38 [some (pO 20 9 0), some (pI 0), none] [] m Q) ∧ (¬ 15 ≤ x1 → Wp g (d + 6) MX5_counted 0 [some (pO 20 9 0), some (pI x1)] [] m (cI fun r2 m3 => Wq g (d + 7) MX5_digest c n 14 [some (pO 20 9 0), some (pI (x1 + 1)), none] [] (setL m3 1 ((31 * (m3.2 1)) + (Int32.toInt64 r2))) Q)))) : Wq g (d + 7) MX5_digest c n 14 [some (pO 20 9 0), some (pI x1), none] [] m Q := by
  refine Wq.iload_n (x := x1) dX5_digest_14 rfl ?_
  refine Wq.bipush (v := 15) dX5_digest_15 (by decide) ?_
  refine Wq.icmpge (tgt := 36) dX5_digest_17 (by decide) (fun q1 => ?_) (fun q1 => ?_)
  · replace h := h.1 q1
    refine Wq.iconst (v := 0) dX5_digest_36 (by decide) ?_
    refine Wq.istore_n (ls2 := [some (pO 20 9 0), some (pI 0), none]) dX5_digest_37 (by decide) rfl ?_
    exact h
  · replace h := h.2 q1
    refine Wq.aload_n (t := 20) (r := 9) (j := 0) dX5_digest_20 rfl ?_
    refine Wq.aload_n (t := 20) (r := 9) (j := 0) dX5_digest_21 rfl ?_
    refine Wq.iload_n (x := x1) dX5_digest_22 rfl ?_
    refine Wq.callVI (As := [pI x1]) dX5_digest_23 fX5_counted ml_X5_200 rfl (by decide) rfl (Nat.le_of_ble_eq_true rfl) (Nat.le_of_ble_eq_true rfl) h (fun r2 m3 h => ?_)
    refine Wq.i2l dX5_digest_26 ?_
    refine Wq.callVV (As := [pL (Int32.toInt64 r2)]) dX5_digest_27 fX5_digestOne ml_X5_232 rfl (by decide) rfl (Nat.le_of_ble_eq_true rfl) (Nat.le_of_ble_eq_true rfl) ?_ (fun _ h9 => h9)
    refine Wq.few (ls' := [some (pO 20 9 0), some (pL (Int32.toInt64 r2)), none]) ⟨rfl, ⟨rfl, trivial⟩⟩ ?_
    refine Wq.aload_n (t := 20) (r := 9) (j := 0) dX5_digestOne_0 rfl ?_
    refine Wq.ldc2 dX5_digestOne_1 lc_X5_224 ?_
    refine Wq.aload_n (t := 20) (r := 9) (j := 0) dX5_digestOne_4 rfl ?_
    refine Wq.getf (v := pL (m3.2 1)) dX5_digestOne_5 fl_X5_226 ⟨rfl, rfl, by decide⟩ rfl ?_
    refine Wq.lmul dX5_digestOne_8 ?_
    refine Wq.lload_n (x := (Int32.toInt64 r2)) dX5_digestOne_9 rfl ?_
    refine Wq.ladd dX5_digestOne_10 ?_
    refine Wq.putDig dX5_digestOne_11 fw_X5_226 ?_
    refine Wq.vretV dX5_digestOne_14 rfl ?_
    refine Wq.iinc (x := x1) (ls2 := [some (pO 20 9 0), some (pI (x1 + 1)), none]) dX5_digest_30 rfl (by decide) rfl ?_
    refine Wq.goto (tgt := 14) dX5_digest_33 (by decide) ?_
    exact h
set_option maxHeartbeats 4000000 in
set_option maxRecDepth 20000 in
theorem sgX5_digest_38 {g : GG} {d : Nat} {c n : Nat} {m : PM} {Q : Ou → PM → Nat → Nat → Prop} {x1 : Int32} (h : ((4 ≤ x1 → Wq g (d + 7) MX5_digest c n 64 [some (pO 20 9 0), some (pI 0), none] [] m Q) ∧ (¬ 4 ≤ x1 → (vp_in (5 + x1) 341 ∧ Wq g (d + 7) MX5_digest c n 38 [some (pO 20 9 0), some (pI (x1 + 1)), none] [] (setL m 1 ((31 * (m.2 1)) + (Int32.toInt64 (m.1 9 21 0 (ix (5 + x1)))))) Q)))) : Wq g (d + 7) MX5_digest c n 38 [some (pO 20 9 0), some (pI x1), none] [] m Q := by
  refine Wq.iload_n (x := x1) dX5_digest_38 rfl ?_
  refine Wq.iconst (v := 4) dX5_digest_39 (by decide) ?_
  refine Wq.icmpge (tgt := 62) dX5_digest_40 (by decide) (fun q1 => ?_) (fun q1 => ?_)
  · replace h := h.1 q1
    refine Wq.iconst (v := 0) dX5_digest_62 (by decide) ?_
    refine Wq.istore_n (ls2 := [some (pO 20 9 0), some (pI 0), none]) dX5_digest_63 (by decide) rfl ?_
    exact h
  · replace h := h.2 q1
    refine Wq.aload_n (t := 20) (r := 9) (j := 0) dX5_digest_43 rfl ?_
    refine Wq.aload_n (t := 20) (r := 9) (j := 0) dX5_digest_44 rfl ?_
    refine Wq.getf (v := pO 21 9 0) dX5_digest_45 fl_X5_7 ⟨rfl, rfl, by decide⟩ rfl ?_
    refine Wq.iconst (v := 5) dX5_digest_48 (by decide) ?_
    refine Wq.iload_n (x := x1) dX5_digest_49 rfl ?_
    refine Wq.iadd dX5_digest_50 ?_
    refine Wq.iald dX5_digest_51 rfl h.1 ?_
    replace h := h.2
    refine Wq.i2l dX5_digest_52 ?_
    refine Wq.callVV (As := [pL (Int32.toInt64 (m.1 9 21 0 (ix (5 + x1))))]) dX5_digest_53 fX5_digestOne ml_X5_232 rfl (by decide) rfl (Nat.le_of_ble_eq_true rfl) (Nat.le_of_ble_eq_true rfl) ?_ (fun _ h9 => h9)
    refine Wq.few (ls' := [some (pO 20 9 0), some (pL (Int32.toInt64 (m.1 9 21 0 (ix (5 + x1))))), none]) ⟨rfl, ⟨rfl, trivial⟩⟩ ?_
    refine Wq.aload_n (t := 20) (r := 9) (j := 0) dX5_digestOne_0 rfl ?_
    refine Wq.ldc2 dX5_digestOne_1 lc_X5_224 ?_
    refine Wq.aload_n (t := 20) (r := 9) (j := 0) dX5_digestOne_4 rfl ?_
    refine Wq.getf (v := pL (m.2 1)) dX5_digestOne_5 fl_X5_226 ⟨rfl, rfl, by decide⟩ rfl ?_
    refine Wq.lmul dX5_digestOne_8 ?_
    refine Wq.lload_n (x := (Int32.toInt64 (m.1 9 21 0 (ix (5 + x1))))) dX5_digestOne_9 rfl ?_
    refine Wq.ladd dX5_digestOne_10 ?_
    refine Wq.putDig dX5_digestOne_11 fw_X5_226 ?_
    refine Wq.vretV dX5_digestOne_14 rfl ?_
    refine Wq.iinc (x := x1) (ls2 := [some (pO 20 9 0), some (pI (x1 + 1)), none]) dX5_digest_56 rfl (by decide) rfl ?_
    refine Wq.goto (tgt := 38) dX5_digest_59 (by decide) ?_
    exact h
set_option maxHeartbeats 4000000 in
set_option maxRecDepth 20000 in
theorem sgX5_digest_64 {g : GG} {d : Nat} {c n : Nat} {m : PM} {Q : Ou → PM → Nat → Nat → Prop} {x1 : Int32} (h : (((m.1 9 21 0 (ix 2)) ≤ x1 → Wq g (d + 7) MX5_digest c n 134 [some (pO 20 9 0), some (pI 0), none] [] m Q) ∧ (¬ (m.1 9 21 0 (ix 2)) ≤ x1 → Wq g (d + 7) MX5_digest c n 76 [some (pO 20 9 0), some (pI x1), some (pI 0)] [] m Q))) : Wq g (d + 7) MX5_digest c n 64 [some (pO 20 9 0), some (pI x1), none] [] m Q := by
  refine Wq.iload_n (x := x1) dX5_digest_64 rfl ?_
  refine Wq.aload_n (t := 20) (r := 9) (j := 0) dX5_digest_65 rfl ?_
  refine Wq.getf (v := pO 21 9 0) dX5_digest_66 fl_X5_7 ⟨rfl, rfl, by decide⟩ rfl ?_
  refine Wq.iconst (v := 2) dX5_digest_69 (by decide) ?_
  refine Wq.iald dX5_digest_70 rfl (vp_dec rfl) ?_
  refine Wq.icmpge (tgt := 132) dX5_digest_71 (by decide) (fun q1 => ?_) (fun q1 => ?_)
  · replace h := h.1 q1
    refine Wq.iconst (v := 0) dX5_digest_132 (by decide) ?_
    refine Wq.istore_n (ls2 := [some (pO 20 9 0), some (pI 0), none]) dX5_digest_133 (by decide) rfl ?_
    exact h
  · replace h := h.2 q1
    refine Wq.iconst (v := 0) dX5_digest_74 (by decide) ?_
    refine Wq.istore_n (ls2 := [some (pO 20 9 0), some (pI x1), some (pI 0)]) dX5_digest_75 (by decide) rfl ?_
    exact h
set_option maxHeartbeats 4000000 in
set_option maxRecDepth 20000 in
theorem sgX5_digest_76 {g : GG} {d : Nat} {c n : Nat} {m : PM} {Q : Ou → PM → Nat → Nat → Prop} {x1 : Int32} {x2 : Int32} (h : ((11 ≤ x2 → Wq g (d + 7) MX5_digest c n 101 [some (pO 20 9 0), some (pI x1), some (pI 0)] [] m Q) ∧ (¬ 11 ≤ x2 → Wp g (d + 6) MX5_pupilOf 0 [some (pO 20 9 0), some (pI x1), some (pI x2)] [] m (cI fun r2 m3 => Wq g (d + 7) MX5_digest c n 76 [some (pO 20 9 0), some (pI x1), some (pI (x2 + 1))] [] (setL m3 1 ((31 * (m3.2 1)) + (Int32.toInt64 r2))) Q)))) : Wq g (d + 7) MX5_digest c n 76 [some (pO 20 9 0), some (pI x1), some (pI x2)] [] m Q := by
  refine Wq.iload_n (x := x2) dX5_digest_76 rfl ?_
  refine Wq.bipush (v := 11) dX5_digest_77 (by decide) ?_
  refine Wq.icmpge (tgt := 99) dX5_digest_79 (by decide) (fun q1 => ?_) (fun q1 => ?_)
  · replace h := h.1 q1
    refine Wq.iconst (v := 0) dX5_digest_99 (by decide) ?_
    refine Wq.istore_n (ls2 := [some (pO 20 9 0), some (pI x1), some (pI 0)]) dX5_digest_100 (by decide) rfl ?_
    exact h
  · replace h := h.2 q1
    refine Wq.aload_n (t := 20) (r := 9) (j := 0) dX5_digest_82 rfl ?_
    refine Wq.aload_n (t := 20) (r := 9) (j := 0) dX5_digest_83 rfl ?_
    refine Wq.iload_n (x := x1) dX5_digest_84 rfl ?_
    refine Wq.iload_n (x := x2) dX5_digest_85 rfl ?_
    refine Wq.callVI (As := [pI x1, pI x2]) dX5_digest_86 fX5_pupilOf ml_X5_180 rfl (by decide) rfl (Nat.le_of_ble_eq_true rfl) (Nat.le_of_ble_eq_true rfl) h (fun r2 m3 h => ?_)
    refine Wq.i2l dX5_digest_89 ?_
    refine Wq.callVV (As := [pL (Int32.toInt64 r2)]) dX5_digest_90 fX5_digestOne ml_X5_232 rfl (by decide) rfl (Nat.le_of_ble_eq_true rfl) (Nat.le_of_ble_eq_true rfl) ?_ (fun _ h9 => h9)
    refine Wq.few (ls' := [some (pO 20 9 0), some (pL (Int32.toInt64 r2)), none]) ⟨rfl, ⟨rfl, trivial⟩⟩ ?_
    refine Wq.aload_n (t := 20) (r := 9) (j := 0) dX5_digestOne_0 rfl ?_
    refine Wq.ldc2 dX5_digestOne_1 lc_X5_224 ?_
    refine Wq.aload_n (t := 20) (r := 9) (j := 0) dX5_digestOne_4 rfl ?_
    refine Wq.getf (v := pL (m3.2 1)) dX5_digestOne_5 fl_X5_226 ⟨rfl, rfl, by decide⟩ rfl ?_
    refine Wq.lmul dX5_digestOne_8 ?_
    refine Wq.lload_n (x := (Int32.toInt64 r2)) dX5_digestOne_9 rfl ?_
    refine Wq.ladd dX5_digestOne_10 ?_
    refine Wq.putDig dX5_digestOne_11 fw_X5_226 ?_
    refine Wq.vretV dX5_digestOne_14 rfl ?_
    refine Wq.iinc (x := x2) (ls2 := [some (pO 20 9 0), some (pI x1), some (pI (x2 + 1))]) dX5_digest_93 rfl (by decide) rfl ?_
    refine Wq.goto (tgt := 76) dX5_digest_96 (by decide) ?_
    exact h
set_option maxHeartbeats 4000000 in
set_option maxRecDepth 20000 in
theorem sgX5_digest_101 {g : GG} {d : Nat} {c n : Nat} {m : PM} {Q : Ou → PM → Nat → Nat → Prop} {x1 : Int32} {x2 : Int32} (h : ((3 ≤ x2 → Wq g (d + 7) MX5_digest c n 64 [some (pO 20 9 0), some (pI (x1 + 1)), none] [] m Q) ∧ (¬ 3 ≤ x2 → Wp g (d + 6) MX5_earliestOf 0 [some (pO 20 9 0), some (pI x1)] [] m (cI fun r2 m3 => Wq g (d + 7) MX5_digest c n 101 [some (pO 20 9 0), some (pI x1), some (pI (x2 + 1))] [] (setL m3 1 ((31 * (m3.2 1)) + (Int32.toInt64 ((if ¬ r2 = (-1) then (if ¬ x2 = 0 then (if ¬ x2 = 1 then (irm r2 4) else (irm (r2 / 4) 4)) else (r2 / 16)) else (-1)) : Int32)))) Q)))) : Wq g (d + 7) MX5_digest c n 101 [some (pO 20 9 0), some (pI x1), some (pI x2)] [] m Q := by
  refine Wq.iload_n (x := x2) dX5_digest_101 rfl ?_
  refine Wq.iconst (v := 3) dX5_digest_102 (by decide) ?_
  refine Wq.icmpge (tgt := 126) dX5_digest_103 (by decide) (fun q1 => ?_) (fun q1 => ?_)
  · replace h := h.1 q1
    refine Wq.iinc (x := x1) (ls2 := [some (pO 20 9 0), some (pI (x1 + 1)), some (pI x2)]) dX5_digest_126 rfl (by decide) rfl ?_
    refine Wq.goto (tgt := 64) dX5_digest_129 (by decide) ?_
    refine Wq.few (ls' := [some (pO 20 9 0), some (pI (x1 + 1)), none]) ⟨rfl, ⟨rfl, trivial⟩⟩ ?_
    exact h
  · replace h := h.2 q1
    refine Wq.aload_n (t := 20) (r := 9) (j := 0) dX5_digest_106 rfl ?_
    refine Wq.aload_n (t := 20) (r := 9) (j := 0) dX5_digest_107 rfl ?_
    refine Wq.iload_n (x := x1) dX5_digest_108 rfl ?_
    refine Wq.callVI (As := [pI x1]) dX5_digest_109 fX5_earliestOf ml_X5_83 rfl (by decide) rfl (Nat.le_of_ble_eq_true rfl) (Nat.le_of_ble_eq_true rfl) h (fun r2 m3 h => ?_)
    refine Wq.iload_n (x := x2) dX5_digest_112 rfl ?_
    refine Wq.callSI (As := [pI r2, pI x2]) dX5_digest_113 fX5_told ml_X5_178 rfl (Nat.le_of_ble_eq_true rfl) (Nat.le_of_ble_eq_true rfl) (suX5_told trivial) (fun x4 m9 e9 => ?_)
    obtain ⟨rfl, rfl⟩ := e9
    refine Wq.i2l dX5_digest_116 ?_
    refine Wq.callVV (As := [pL (Int32.toInt64 ((if ¬ r2 = (-1) then (if ¬ x2 = 0 then (if ¬ x2 = 1 then (irm r2 4) else (irm (r2 / 4) 4)) else (r2 / 16)) else (-1)) : Int32))]) dX5_digest_117 fX5_digestOne ml_X5_232 rfl (by decide) rfl (Nat.le_of_ble_eq_true rfl) (Nat.le_of_ble_eq_true rfl) ?_ (fun _ h9 => h9)
    refine Wq.few (ls' := [some (pO 20 9 0), some (pL (Int32.toInt64 ((if ¬ r2 = (-1) then (if ¬ x2 = 0 then (if ¬ x2 = 1 then (irm r2 4) else (irm (r2 / 4) 4)) else (r2 / 16)) else (-1)) : Int32))), none]) ⟨rfl, ⟨rfl, trivial⟩⟩ ?_
    refine Wq.aload_n (t := 20) (r := 9) (j := 0) dX5_digestOne_0 rfl ?_
    refine Wq.ldc2 dX5_digestOne_1 lc_X5_224 ?_
    refine Wq.aload_n (t := 20) (r := 9) (j := 0) dX5_digestOne_4 rfl ?_
    refine Wq.getf (v := pL (m3.2 1)) dX5_digestOne_5 fl_X5_226 ⟨rfl, rfl, by decide⟩ rfl ?_
    refine Wq.lmul dX5_digestOne_8 ?_
    refine Wq.lload_n (x := (Int32.toInt64 ((if ¬ r2 = (-1) then (if ¬ x2 = 0 then (if ¬ x2 = 1 then (irm r2 4) else (irm (r2 / 4) 4)) else (r2 / 16)) else (-1)) : Int32))) dX5_digestOne_9 rfl ?_
    refine Wq.ladd dX5_digestOne_10 ?_
    refine Wq.putDig dX5_digestOne_11 fw_X5_226 ?_
    refine Wq.vretV dX5_digestOne_14 rfl ?_
    refine Wq.iinc (x := x2) (ls2 := [some (pO 20 9 0), some (pI x1), some (pI (x2 + 1))]) dX5_digest_120 rfl (by decide) rfl ?_
    refine Wq.goto (tgt := 101) dX5_digest_123 (by decide) ?_
    exact h
set_option maxHeartbeats 4000000 in
set_option maxRecDepth 20000 in
theorem sgX5_digest_134 {g : GG} {d : Nat} {c n : Nat} {m : PM} {Q : Ou → PM → Nat → Nat → Prop} {x1 : Int32} (h : (((m.1 9 21 0 (ix 1)) ≤ x1 → Wp g (d + 6) MX5_could 0 [some (pO 20 9 0), some (pI 0)] [] m (cI fun r2 m3 => Wp g (d + 6) MX5_could 0 [some (pO 20 9 0), some (pI 1)] [] (setL m3 1 ((31 * (m3.2 1)) + (Int32.toInt64 r2))) (cI fun r4 m5 => Wp g (d + 6) MX5_could 0 [some (pO 20 9 0), some (pI 5)] [] (setL m5 1 ((31 * (m5.2 1)) + (Int32.toInt64 r4))) (cI fun r6 m7 => Wp g (d + 6) MX5_share 0 [some (pO 20 9 0)] [] (setL m7 1 ((31 * (m7.2 1)) + (Int32.toInt64 r6))) (cD fun r8 m9 => Wp g (d + 6) MX5_bitsOfShare 0 [some (pD r8), none] [] m9 (cL fun r10 m11 => Wq g (d + 7) MX5_digest c n 310 [some (pO 20 9 0), some (pI 0), none] [] (setL (setL m11 1 ((31 * (m11.2 1)) + r10)) 1 ((31 * ((setL m11 1 ((31 * (m11.2 1)) + r10)).2 1)) + (Int32.toInt64 ((setL m11 1 ((31 * (m11.2 1)) + r10)).1 9 20 0 6)))) Q)))))) ∧ (¬ (m.1 9 21 0 (ix 1)) ≤ x1 → Wq g (d + 7) MX5_digest c n 146 [some (pO 20 9 0), some (pI x1), some (pI 0)] [] m Q))) : Wq g (d + 7) MX5_digest c n 134 [some (pO 20 9 0), some (pI x1), none] [] m Q := by
  refine Wq.iload_n (x := x1) dX5_digest_134 rfl ?_
  refine Wq.aload_n (t := 20) (r := 9) (j := 0) dX5_digest_135 rfl ?_
  refine Wq.getf (v := pO 21 9 0) dX5_digest_136 fl_X5_7 ⟨rfl, rfl, by decide⟩ rfl ?_
  refine Wq.iconst (v := 1) dX5_digest_139 (by decide) ?_
  refine Wq.iald dX5_digest_140 rfl (vp_dec rfl) ?_
  refine Wq.icmpge (tgt := 258) dX5_digest_141 (by decide) (fun q1 => ?_) (fun q1 => ?_)
  · replace h := h.1 q1
    refine Wq.aload_n (t := 20) (r := 9) (j := 0) dX5_digest_258 rfl ?_
    refine Wq.aload_n (t := 20) (r := 9) (j := 0) dX5_digest_259 rfl ?_
    refine Wq.iconst (v := 0) dX5_digest_260 (by decide) ?_
    refine Wq.callVI (As := [pI 0]) dX5_digest_261 fX5_could ml_X5_209 rfl (by decide) rfl (Nat.le_of_ble_eq_true rfl) (Nat.le_of_ble_eq_true rfl) h (fun r2 m3 h => ?_)
    refine Wq.i2l dX5_digest_264 ?_
    refine Wq.callVV (As := [pL (Int32.toInt64 r2)]) dX5_digest_265 fX5_digestOne ml_X5_232 rfl (by decide) rfl (Nat.le_of_ble_eq_true rfl) (Nat.le_of_ble_eq_true rfl) ?_ (fun _ h9 => h9)
    refine Wq.few (ls' := [some (pO 20 9 0), some (pL (Int32.toInt64 r2)), none]) ⟨rfl, ⟨rfl, trivial⟩⟩ ?_
    refine Wq.aload_n (t := 20) (r := 9) (j := 0) dX5_digestOne_0 rfl ?_
    refine Wq.ldc2 dX5_digestOne_1 lc_X5_224 ?_
    refine Wq.aload_n (t := 20) (r := 9) (j := 0) dX5_digestOne_4 rfl ?_
    refine Wq.getf (v := pL (m3.2 1)) dX5_digestOne_5 fl_X5_226 ⟨rfl, rfl, by decide⟩ rfl ?_
    refine Wq.lmul dX5_digestOne_8 ?_
    refine Wq.lload_n (x := (Int32.toInt64 r2)) dX5_digestOne_9 rfl ?_
    refine Wq.ladd dX5_digestOne_10 ?_
    refine Wq.putDig dX5_digestOne_11 fw_X5_226 ?_
    refine Wq.vretV dX5_digestOne_14 rfl ?_
    refine Wq.aload_n (t := 20) (r := 9) (j := 0) dX5_digest_268 rfl ?_
    refine Wq.aload_n (t := 20) (r := 9) (j := 0) dX5_digest_269 rfl ?_
    refine Wq.iconst (v := 1) dX5_digest_270 (by decide) ?_
    refine Wq.callVI (As := [pI 1]) dX5_digest_271 fX5_could ml_X5_209 rfl (by decide) rfl (Nat.le_of_ble_eq_true rfl) (Nat.le_of_ble_eq_true rfl) h (fun r4 m5 h => ?_)
    refine Wq.i2l dX5_digest_274 ?_
    refine Wq.callVV (As := [pL (Int32.toInt64 r4)]) dX5_digest_275 fX5_digestOne ml_X5_232 rfl (by decide) rfl (Nat.le_of_ble_eq_true rfl) (Nat.le_of_ble_eq_true rfl) ?_ (fun _ h9 => h9)
    refine Wq.few (ls' := [some (pO 20 9 0), some (pL (Int32.toInt64 r4)), none]) ⟨rfl, ⟨rfl, trivial⟩⟩ ?_
    refine Wq.aload_n (t := 20) (r := 9) (j := 0) dX5_digestOne_0 rfl ?_
    refine Wq.ldc2 dX5_digestOne_1 lc_X5_224 ?_
    refine Wq.aload_n (t := 20) (r := 9) (j := 0) dX5_digestOne_4 rfl ?_
    refine Wq.getf (v := pL (m5.2 1)) dX5_digestOne_5 fl_X5_226 ⟨rfl, rfl, by decide⟩ rfl ?_
    refine Wq.lmul dX5_digestOne_8 ?_
    refine Wq.lload_n (x := (Int32.toInt64 r4)) dX5_digestOne_9 rfl ?_
    refine Wq.ladd dX5_digestOne_10 ?_
    refine Wq.putDig dX5_digestOne_11 fw_X5_226 ?_
    refine Wq.vretV dX5_digestOne_14 rfl ?_
    refine Wq.aload_n (t := 20) (r := 9) (j := 0) dX5_digest_278 rfl ?_
    refine Wq.aload_n (t := 20) (r := 9) (j := 0) dX5_digest_279 rfl ?_
    refine Wq.iconst (v := 5) dX5_digest_280 (by decide) ?_
    refine Wq.callVI (As := [pI 5]) dX5_digest_281 fX5_could ml_X5_209 rfl (by decide) rfl (Nat.le_of_ble_eq_true rfl) (Nat.le_of_ble_eq_true rfl) h (fun r6 m7 h => ?_)
    refine Wq.i2l dX5_digest_284 ?_
    refine Wq.callVV (As := [pL (Int32.toInt64 r6)]) dX5_digest_285 fX5_digestOne ml_X5_232 rfl (by decide) rfl (Nat.le_of_ble_eq_true rfl) (Nat.le_of_ble_eq_true rfl) ?_ (fun _ h9 => h9)
    refine Wq.few (ls' := [some (pO 20 9 0), some (pL (Int32.toInt64 r6)), none]) ⟨rfl, ⟨rfl, trivial⟩⟩ ?_
    refine Wq.aload_n (t := 20) (r := 9) (j := 0) dX5_digestOne_0 rfl ?_
    refine Wq.ldc2 dX5_digestOne_1 lc_X5_224 ?_
    refine Wq.aload_n (t := 20) (r := 9) (j := 0) dX5_digestOne_4 rfl ?_
    refine Wq.getf (v := pL (m7.2 1)) dX5_digestOne_5 fl_X5_226 ⟨rfl, rfl, by decide⟩ rfl ?_
    refine Wq.lmul dX5_digestOne_8 ?_
    refine Wq.lload_n (x := (Int32.toInt64 r6)) dX5_digestOne_9 rfl ?_
    refine Wq.ladd dX5_digestOne_10 ?_
    refine Wq.putDig dX5_digestOne_11 fw_X5_226 ?_
    refine Wq.vretV dX5_digestOne_14 rfl ?_
    refine Wq.aload_n (t := 20) (r := 9) (j := 0) dX5_digest_288 rfl ?_
    refine Wq.aload_n (t := 20) (r := 9) (j := 0) dX5_digest_289 rfl ?_
    refine Wq.callVD (As := []) dX5_digest_290 fX5_share ml_X5_212 rfl (by decide) rfl (Nat.le_of_ble_eq_true rfl) (Nat.le_of_ble_eq_true rfl) h (fun r8 m9 h => ?_)
    refine Wq.callSL (As := [pD r8]) dX5_digest_293 fX5_bitsOfShare ml_X5_236 rfl (Nat.le_of_ble_eq_true rfl) (Nat.le_of_ble_eq_true rfl) h (fun r10 m11 h => ?_)
    refine Wq.callVV (As := [pL r10]) dX5_digest_296 fX5_digestOne ml_X5_232 rfl (by decide) rfl (Nat.le_of_ble_eq_true rfl) (Nat.le_of_ble_eq_true rfl) ?_ (fun _ h9 => h9)
    refine Wq.few (ls' := [some (pO 20 9 0), some (pL r10), none]) ⟨rfl, ⟨rfl, trivial⟩⟩ ?_
    refine Wq.aload_n (t := 20) (r := 9) (j := 0) dX5_digestOne_0 rfl ?_
    refine Wq.ldc2 dX5_digestOne_1 lc_X5_224 ?_
    refine Wq.aload_n (t := 20) (r := 9) (j := 0) dX5_digestOne_4 rfl ?_
    refine Wq.getf (v := pL (m11.2 1)) dX5_digestOne_5 fl_X5_226 ⟨rfl, rfl, by decide⟩ rfl ?_
    refine Wq.lmul dX5_digestOne_8 ?_
    refine Wq.lload_n (x := r10) dX5_digestOne_9 rfl ?_
    refine Wq.ladd dX5_digestOne_10 ?_
    refine Wq.putDig dX5_digestOne_11 fw_X5_226 ?_
    refine Wq.vretV dX5_digestOne_14 rfl ?_
    refine Wq.aload_n (t := 20) (r := 9) (j := 0) dX5_digest_299 rfl ?_
    refine Wq.aload_n (t := 20) (r := 9) (j := 0) dX5_digest_300 rfl ?_
    refine Wq.getf (v := pI ((setL m11 1 ((31 * (m11.2 1)) + r10)).1 9 20 0 6)) dX5_digest_301 fl_X5_147 ⟨rfl, rfl, by decide⟩ rfl ?_
    refine Wq.i2l dX5_digest_304 ?_
    refine Wq.callVV (As := [pL (Int32.toInt64 ((setL m11 1 ((31 * (m11.2 1)) + r10)).1 9 20 0 6))]) dX5_digest_305 fX5_digestOne ml_X5_232 rfl (by decide) rfl (Nat.le_of_ble_eq_true rfl) (Nat.le_of_ble_eq_true rfl) ?_ (fun _ h9 => h9)
    refine Wq.few (ls' := [some (pO 20 9 0), some (pL (Int32.toInt64 ((setL m11 1 ((31 * (m11.2 1)) + r10)).1 9 20 0 6))), none]) ⟨rfl, ⟨rfl, trivial⟩⟩ ?_
    refine Wq.aload_n (t := 20) (r := 9) (j := 0) dX5_digestOne_0 rfl ?_
    refine Wq.ldc2 dX5_digestOne_1 lc_X5_224 ?_
    refine Wq.aload_n (t := 20) (r := 9) (j := 0) dX5_digestOne_4 rfl ?_
    refine Wq.getf (v := pL ((setL m11 1 ((31 * (m11.2 1)) + r10)).2 1)) dX5_digestOne_5 fl_X5_226 ⟨rfl, rfl, by decide⟩ rfl ?_
    refine Wq.lmul dX5_digestOne_8 ?_
    refine Wq.lload_n (x := (Int32.toInt64 ((setL m11 1 ((31 * (m11.2 1)) + r10)).1 9 20 0 6))) dX5_digestOne_9 rfl ?_
    refine Wq.ladd dX5_digestOne_10 ?_
    refine Wq.putDig dX5_digestOne_11 fw_X5_226 ?_
    refine Wq.vretV dX5_digestOne_14 rfl ?_
    refine Wq.iconst (v := 0) dX5_digest_308 (by decide) ?_
    refine Wq.istore_n (ls2 := [some (pO 20 9 0), some (pI 0), none]) dX5_digest_309 (by decide) rfl ?_
    exact h
  · replace h := h.2 q1
    refine Wq.iconst (v := 0) dX5_digest_144 (by decide) ?_
    refine Wq.istore_n (ls2 := [some (pO 20 9 0), some (pI x1), some (pI 0)]) dX5_digest_145 (by decide) rfl ?_
    exact h
set_option maxHeartbeats 4000000 in
set_option maxRecDepth 20000 in
theorem sgX5_digest_146 {g : GG} {d : Nat} {c n : Nat} {m : PM} {Q : Ou → PM → Nat → Nat → Prop} {x1 : Int32} {x2 : Int32} (h : ((9 ≤ x2 → Wq g (d + 7) MX5_digest c n 171 [some (pO 20 9 0), some (pI x1), some (pI 0)] [] m Q) ∧ (¬ 9 ≤ x2 → Wp g (d + 6) MX5_examinerOf_ 0 [some (pO 20 9 0), some (pI x1), some (pI x2)] [] m (cI fun r2 m3 => Wq g (d + 7) MX5_digest c n 146 [some (pO 20 9 0), some (pI x1), some (pI (x2 + 1))] [] (setL m3 1 ((31 * (m3.2 1)) + (Int32.toInt64 r2))) Q)))) : Wq g (d + 7) MX5_digest c n 146 [some (pO 20 9 0), some (pI x1), some (pI x2)] [] m Q := by
  refine Wq.iload_n (x := x2) dX5_digest_146 rfl ?_
  refine Wq.bipush (v := 9) dX5_digest_147 (by decide) ?_
  refine Wq.icmpge (tgt := 169) dX5_digest_149 (by decide) (fun q1 => ?_) (fun q1 => ?_)
  · replace h := h.1 q1
    refine Wq.iconst (v := 0) dX5_digest_169 (by decide) ?_
    refine Wq.istore_n (ls2 := [some (pO 20 9 0), some (pI x1), some (pI 0)]) dX5_digest_170 (by decide) rfl ?_
    exact h
  · replace h := h.2 q1
    refine Wq.aload_n (t := 20) (r := 9) (j := 0) dX5_digest_152 rfl ?_
    refine Wq.aload_n (t := 20) (r := 9) (j := 0) dX5_digest_153 rfl ?_
    refine Wq.iload_n (x := x1) dX5_digest_154 rfl ?_
    refine Wq.iload_n (x := x2) dX5_digest_155 rfl ?_
    refine Wq.callVI (As := [pI x1, pI x2]) dX5_digest_156 fX5_examinerOf_ ml_X5_186 rfl (by decide) rfl (Nat.le_of_ble_eq_true rfl) (Nat.le_of_ble_eq_true rfl) h (fun r2 m3 h => ?_)
    refine Wq.i2l dX5_digest_159 ?_
    refine Wq.callVV (As := [pL (Int32.toInt64 r2)]) dX5_digest_160 fX5_digestOne ml_X5_232 rfl (by decide) rfl (Nat.le_of_ble_eq_true rfl) (Nat.le_of_ble_eq_true rfl) ?_ (fun _ h9 => h9)
    refine Wq.few (ls' := [some (pO 20 9 0), some (pL (Int32.toInt64 r2)), none]) ⟨rfl, ⟨rfl, trivial⟩⟩ ?_
    refine Wq.aload_n (t := 20) (r := 9) (j := 0) dX5_digestOne_0 rfl ?_
    refine Wq.ldc2 dX5_digestOne_1 lc_X5_224 ?_
    refine Wq.aload_n (t := 20) (r := 9) (j := 0) dX5_digestOne_4 rfl ?_
    refine Wq.getf (v := pL (m3.2 1)) dX5_digestOne_5 fl_X5_226 ⟨rfl, rfl, by decide⟩ rfl ?_
    refine Wq.lmul dX5_digestOne_8 ?_
    refine Wq.lload_n (x := (Int32.toInt64 r2)) dX5_digestOne_9 rfl ?_
    refine Wq.ladd dX5_digestOne_10 ?_
    refine Wq.putDig dX5_digestOne_11 fw_X5_226 ?_
    refine Wq.vretV dX5_digestOne_14 rfl ?_
    refine Wq.iinc (x := x2) (ls2 := [some (pO 20 9 0), some (pI x1), some (pI (x2 + 1))]) dX5_digest_163 rfl (by decide) rfl ?_
    refine Wq.goto (tgt := 146) dX5_digest_166 (by decide) ?_
    exact h
set_option maxHeartbeats 4000000 in
set_option maxRecDepth 20000 in
theorem sgX5_digest_171 {g : GG} {d : Nat} {c n : Nat} {m : PM} {Q : Ou → PM → Nat → Nat → Prop} {x1 : Int32} {x2 : Int32} (h : ((40 ≤ x2 → Wq g (d + 7) MX5_digest c n 204 [some (pO 20 9 0), some (pI x1), some (pI 0)] [] m Q) ∧ (¬ 40 ≤ x2 → (vp_in ((9 + (40 * x1)) + x2) 341 ∧ Wq g (d + 7) MX5_digest c n 171 [some (pO 20 9 0), some (pI x1), some (pI (x2 + 1))] [] (setL m 1 ((31 * (m.2 1)) + (Int32.toInt64 (m.1 9 21 0 (ix ((9 + (40 * x1)) + x2)))))) Q)))) : Wq g (d + 7) MX5_digest c n 171 [some (pO 20 9 0), some (pI x1), some (pI x2)] [] m Q := by
  refine Wq.iload_n (x := x2) dX5_digest_171 rfl ?_
  refine Wq.bipush (v := 40) dX5_digest_172 (by decide) ?_
  refine Wq.icmpge (tgt := 202) dX5_digest_174 (by decide) (fun q1 => ?_) (fun q1 => ?_)
  · replace h := h.1 q1
    refine Wq.iconst (v := 0) dX5_digest_202 (by decide) ?_
    refine Wq.istore_n (ls2 := [some (pO 20 9 0), some (pI x1), some (pI 0)]) dX5_digest_203 (by decide) rfl ?_
    exact h
  · replace h := h.2 q1
    refine Wq.aload_n (t := 20) (r := 9) (j := 0) dX5_digest_177 rfl ?_
    refine Wq.aload_n (t := 20) (r := 9) (j := 0) dX5_digest_178 rfl ?_
    refine Wq.getf (v := pO 21 9 0) dX5_digest_179 fl_X5_7 ⟨rfl, rfl, by decide⟩ rfl ?_
    refine Wq.bipush (v := 9) dX5_digest_182 (by decide) ?_
    refine Wq.bipush (v := 40) dX5_digest_184 (by decide) ?_
    refine Wq.iload_n (x := x1) dX5_digest_186 rfl ?_
    refine Wq.imul dX5_digest_187 ?_
    refine Wq.iadd dX5_digest_188 ?_
    refine Wq.iload_n (x := x2) dX5_digest_189 rfl ?_
    refine Wq.iadd dX5_digest_190 ?_
    refine Wq.iald dX5_digest_191 rfl h.1 ?_
    replace h := h.2
    refine Wq.i2l dX5_digest_192 ?_
    refine Wq.callVV (As := [pL (Int32.toInt64 (m.1 9 21 0 (ix ((9 + (40 * x1)) + x2))))]) dX5_digest_193 fX5_digestOne ml_X5_232 rfl (by decide) rfl (Nat.le_of_ble_eq_true rfl) (Nat.le_of_ble_eq_true rfl) ?_ (fun _ h9 => h9)
    refine Wq.few (ls' := [some (pO 20 9 0), some (pL (Int32.toInt64 (m.1 9 21 0 (ix ((9 + (40 * x1)) + x2))))), none]) ⟨rfl, ⟨rfl, trivial⟩⟩ ?_
    refine Wq.aload_n (t := 20) (r := 9) (j := 0) dX5_digestOne_0 rfl ?_
    refine Wq.ldc2 dX5_digestOne_1 lc_X5_224 ?_
    refine Wq.aload_n (t := 20) (r := 9) (j := 0) dX5_digestOne_4 rfl ?_
    refine Wq.getf (v := pL (m.2 1)) dX5_digestOne_5 fl_X5_226 ⟨rfl, rfl, by decide⟩ rfl ?_
    refine Wq.lmul dX5_digestOne_8 ?_
    refine Wq.lload_n (x := (Int32.toInt64 (m.1 9 21 0 (ix ((9 + (40 * x1)) + x2))))) dX5_digestOne_9 rfl ?_
    refine Wq.ladd dX5_digestOne_10 ?_
    refine Wq.putDig dX5_digestOne_11 fw_X5_226 ?_
    refine Wq.vretV dX5_digestOne_14 rfl ?_
    refine Wq.iinc (x := x2) (ls2 := [some (pO 20 9 0), some (pI x1), some (pI (x2 + 1))]) dX5_digest_196 rfl (by decide) rfl ?_
    refine Wq.goto (tgt := 171) dX5_digest_199 (by decide) ?_
    exact h
set_option maxHeartbeats 4000000 in
set_option maxRecDepth 20000 in
theorem sgX5_digest_204 {g : GG} {d : Nat} {c n : Nat} {m : PM} {Q : Ou → PM → Nat → Nat → Prop} {x1 : Int32} {x2 : Int32} (h : ((6 ≤ x2 → (((m.1 9 21 0 (ix 2)) ≤ 0 → Wq g (d + 7) MX5_digest c n 134 [some (pO 20 9 0), some (pI (x1 + 1)), none] [] m Q) ∧ (¬ (m.1 9 21 0 (ix 2)) ≤ 0 → Wp g (d + 6) MX5_routeFor 0 [some (pO 20 9 0), some (pI 0), some (pI x1)] [] m (cI fun r3 m4 => Wq g (d + 7) MX5_digest c n 134 [some (pO 20 9 0), some (pI (x1 + 1)), none] [] (setL m4 1 ((31 * (m4.2 1)) + (Int32.toInt64 r3))) Q)))) ∧ (¬ 6 ≤ x2 → Wp g (d + 6) MX5_cancelled 0 [some (pO 20 9 0), some (pI x1), some (pI (x2 / 3)), some (pI (irm x2 3))] [] m (cI fun r5 m6 => Wq g (d + 7) MX5_digest c n 204 [some (pO 20 9 0), some (pI x1), some (pI (x2 + 1))] [] (setL m6 1 ((31 * (m6.2 1)) + (Int32.toInt64 r5))) Q)))) : Wq g (d + 7) MX5_digest c n 204 [some (pO 20 9 0), some (pI x1), some (pI x2)] [] m Q := by
  refine Wq.iload_n (x := x2) dX5_digest_204 rfl ?_
  refine Wq.bipush (v := 6) dX5_digest_205 (by decide) ?_
  refine Wq.icmpge (tgt := 232) dX5_digest_207 (by decide) (fun q1 => ?_) (fun q1 => ?_)
  · replace h := h.1 q1
    refine Wq.aload_n (t := 20) (r := 9) (j := 0) dX5_digest_232 rfl ?_
    refine Wq.getf (v := pO 21 9 0) dX5_digest_233 fl_X5_7 ⟨rfl, rfl, by decide⟩ rfl ?_
    refine Wq.iconst (v := 2) dX5_digest_236 (by decide) ?_
    refine Wq.iald dX5_digest_237 rfl (vp_dec rfl) ?_
    refine Wq.ifle (tgt := 252) dX5_digest_238 (by decide) (fun q2 => ?_) (fun q2 => ?_)
    · replace h := h.1 q2
      refine Wq.iinc (x := x1) (ls2 := [some (pO 20 9 0), some (pI (x1 + 1)), some (pI x2)]) dX5_digest_252 rfl (by decide) rfl ?_
      refine Wq.goto (tgt := 134) dX5_digest_255 (by decide) ?_
      refine Wq.few (ls' := [some (pO 20 9 0), some (pI (x1 + 1)), none]) ⟨rfl, ⟨rfl, trivial⟩⟩ ?_
      exact h
    · replace h := h.2 q2
      refine Wq.aload_n (t := 20) (r := 9) (j := 0) dX5_digest_241 rfl ?_
      refine Wq.aload_n (t := 20) (r := 9) (j := 0) dX5_digest_242 rfl ?_
      refine Wq.iconst (v := 0) dX5_digest_243 (by decide) ?_
      refine Wq.iload_n (x := x1) dX5_digest_244 rfl ?_
      refine Wq.callVI (As := [pI 0, pI x1]) dX5_digest_245 fX5_routeFor ml_X5_130 rfl (by decide) rfl (Nat.le_of_ble_eq_true rfl) (Nat.le_of_ble_eq_true rfl) h (fun r3 m4 h => ?_)
      refine Wq.i2l dX5_digest_248 ?_
      refine Wq.callVV (As := [pL (Int32.toInt64 r3)]) dX5_digest_249 fX5_digestOne ml_X5_232 rfl (by decide) rfl (Nat.le_of_ble_eq_true rfl) (Nat.le_of_ble_eq_true rfl) ?_ (fun _ h9 => h9)
      refine Wq.few (ls' := [some (pO 20 9 0), some (pL (Int32.toInt64 r3)), none]) ⟨rfl, ⟨rfl, trivial⟩⟩ ?_
      refine Wq.aload_n (t := 20) (r := 9) (j := 0) dX5_digestOne_0 rfl ?_
      refine Wq.ldc2 dX5_digestOne_1 lc_X5_224 ?_
      refine Wq.aload_n (t := 20) (r := 9) (j := 0) dX5_digestOne_4 rfl ?_
      refine Wq.getf (v := pL (m4.2 1)) dX5_digestOne_5 fl_X5_226 ⟨rfl, rfl, by decide⟩ rfl ?_
      refine Wq.lmul dX5_digestOne_8 ?_
      refine Wq.lload_n (x := (Int32.toInt64 r3)) dX5_digestOne_9 rfl ?_
      refine Wq.ladd dX5_digestOne_10 ?_
      refine Wq.putDig dX5_digestOne_11 fw_X5_226 ?_
      refine Wq.vretV dX5_digestOne_14 rfl ?_
      refine Wq.iinc (x := x1) (ls2 := [some (pO 20 9 0), some (pI (x1 + 1)), some (pI x2)]) dX5_digest_252 rfl (by decide) rfl ?_
      refine Wq.goto (tgt := 134) dX5_digest_255 (by decide) ?_
      refine Wq.few (ls' := [some (pO 20 9 0), some (pI (x1 + 1)), none]) ⟨rfl, ⟨rfl, trivial⟩⟩ ?_
      exact h
  · replace h := h.2 q1
    refine Wq.aload_n (t := 20) (r := 9) (j := 0) dX5_digest_210 rfl ?_
    refine Wq.aload_n (t := 20) (r := 9) (j := 0) dX5_digest_211 rfl ?_
    refine Wq.iload_n (x := x1) dX5_digest_212 rfl ?_
    refine Wq.iload_n (x := x2) dX5_digest_213 rfl ?_
    refine Wq.iconst (v := 3) dX5_digest_214 (by decide) ?_
    refine Wq.idiv dX5_digest_215 (by decide) ?_
    refine Wq.iload_n (x := x2) dX5_digest_216 rfl ?_
    refine Wq.iconst (v := 3) dX5_digest_217 (by decide) ?_
    refine Wq.irem dX5_digest_218 (by decide) ?_
    refine Wq.callVI (As := [pI x1, pI (x2 / 3), pI (irm x2 3)]) dX5_digest_219 fX5_cancelled ml_X5_203 rfl (by decide) rfl (Nat.le_of_ble_eq_true rfl) (Nat.le_of_ble_eq_true rfl) h (fun r5 m6 h => ?_)
    refine Wq.i2l dX5_digest_222 ?_
    refine Wq.callVV (As := [pL (Int32.toInt64 r5)]) dX5_digest_223 fX5_digestOne ml_X5_232 rfl (by decide) rfl (Nat.le_of_ble_eq_true rfl) (Nat.le_of_ble_eq_true rfl) ?_ (fun _ h9 => h9)
    refine Wq.few (ls' := [some (pO 20 9 0), some (pL (Int32.toInt64 r5)), none]) ⟨rfl, ⟨rfl, trivial⟩⟩ ?_
    refine Wq.aload_n (t := 20) (r := 9) (j := 0) dX5_digestOne_0 rfl ?_
    refine Wq.ldc2 dX5_digestOne_1 lc_X5_224 ?_
    refine Wq.aload_n (t := 20) (r := 9) (j := 0) dX5_digestOne_4 rfl ?_
    refine Wq.getf (v := pL (m6.2 1)) dX5_digestOne_5 fl_X5_226 ⟨rfl, rfl, by decide⟩ rfl ?_
    refine Wq.lmul dX5_digestOne_8 ?_
    refine Wq.lload_n (x := (Int32.toInt64 r5)) dX5_digestOne_9 rfl ?_
    refine Wq.ladd dX5_digestOne_10 ?_
    refine Wq.putDig dX5_digestOne_11 fw_X5_226 ?_
    refine Wq.vretV dX5_digestOne_14 rfl ?_
    refine Wq.iinc (x := x2) (ls2 := [some (pO 20 9 0), some (pI x1), some (pI (x2 + 1))]) dX5_digest_226 rfl (by decide) rfl ?_
    refine Wq.goto (tgt := 204) dX5_digest_229 (by decide) ?_
    exact h
set_option maxHeartbeats 4000000 in
set_option maxRecDepth 20000 in
theorem sgX5_digest_310 {g : GG} {d : Nat} {c n : Nat} {m : PM} {Q : Ou → PM → Nat → Nat → Prop} {x1 : Int32} (h : (((m.1 9 20 0 6) ≤ x1 → Q (.inl (some (pL (m.2 1)))) m c n) ∧ (¬ (m.1 9 20 0 6) ≤ x1 → (vp_in x1 60 ∧ Wq g (d + 7) MX5_digest c n 310 [some (pO 20 9 0), some (pI (x1 + 1)), none] [] (setL m 1 ((31 * (m.2 1)) + (Int32.toInt64 (m.1 9 24 0 (ix x1))))) Q)))) : Wq g (d + 7) MX5_digest c n 310 [some (pO 20 9 0), some (pI x1), none] [] m Q := by
  refine Wq.iload_n (x := x1) dX5_digest_310 rfl ?_
  refine Wq.aload_n (t := 20) (r := 9) (j := 0) dX5_digest_311 rfl ?_
  refine Wq.getf (v := pI (m.1 9 20 0 6)) dX5_digest_312 fl_X5_147 ⟨rfl, rfl, by decide⟩ rfl ?_
  refine Wq.icmpge (tgt := 335) dX5_digest_315 (by decide) (fun q1 => ?_) (fun q1 => ?_)
  · replace h := h.1 q1
    refine Wq.aload_n (t := 20) (r := 9) (j := 0) dX5_digest_335 rfl ?_
    refine Wq.getf (v := pL (m.2 1)) dX5_digest_336 fl_X5_226 ⟨rfl, rfl, by decide⟩ rfl ?_
    exact Wq.lret dX5_digest_339 rfl h
  · replace h := h.2 q1
    refine Wq.aload_n (t := 20) (r := 9) (j := 0) dX5_digest_318 rfl ?_
    refine Wq.aload_n (t := 20) (r := 9) (j := 0) dX5_digest_319 rfl ?_
    refine Wq.getf (v := pO 24 9 0) dX5_digest_320 fl_X5_19 ⟨rfl, rfl, by decide⟩ rfl ?_
    refine Wq.iload_n (x := x1) dX5_digest_323 rfl ?_
    refine Wq.iald dX5_digest_324 rfl h.1 ?_
    replace h := h.2
    refine Wq.i2l dX5_digest_325 ?_
    refine Wq.callVV (As := [pL (Int32.toInt64 (m.1 9 24 0 (ix x1)))]) dX5_digest_326 fX5_digestOne ml_X5_232 rfl (by decide) rfl (Nat.le_of_ble_eq_true rfl) (Nat.le_of_ble_eq_true rfl) ?_ (fun _ h9 => h9)
    refine Wq.few (ls' := [some (pO 20 9 0), some (pL (Int32.toInt64 (m.1 9 24 0 (ix x1)))), none]) ⟨rfl, ⟨rfl, trivial⟩⟩ ?_
    refine Wq.aload_n (t := 20) (r := 9) (j := 0) dX5_digestOne_0 rfl ?_
    refine Wq.ldc2 dX5_digestOne_1 lc_X5_224 ?_
    refine Wq.aload_n (t := 20) (r := 9) (j := 0) dX5_digestOne_4 rfl ?_
    refine Wq.getf (v := pL (m.2 1)) dX5_digestOne_5 fl_X5_226 ⟨rfl, rfl, by decide⟩ rfl ?_
    refine Wq.lmul dX5_digestOne_8 ?_
    refine Wq.lload_n (x := (Int32.toInt64 (m.1 9 24 0 (ix x1)))) dX5_digestOne_9 rfl ?_
    refine Wq.ladd dX5_digestOne_10 ?_
    refine Wq.putDig dX5_digestOne_11 fw_X5_226 ?_
    refine Wq.vretV dX5_digestOne_14 rfl ?_
    refine Wq.iinc (x := x1) (ls2 := [some (pO 20 9 0), some (pI (x1 + 1)), none]) dX5_digest_329 rfl (by decide) rfl ?_
    refine Wq.goto (tgt := 310) dX5_digest_332 (by decide) ?_
    exact h
set_option maxHeartbeats 4000000 in
set_option maxRecDepth 20000 in
theorem sgX5_firstError {g : GG} {d : Nat} {c n : Nat} {m : PM} {Q : Ou → PM → Nat → Nat → Prop}  (h : Wp g (d + 7) MX5_go 0 [some (pO 20 9 0), some (pI 0)] [] (setI m 20 9 0 0 0) (cI fun r1 m2 => (((m2.1 9 20 0 9) = 0 → Q (.inl (some (pI (m2.1 9 20 0 6)))) m2 c n) ∧ (¬ (m2.1 9 20 0 9) = 0 → Q (.inl (some (pI (m2.1 9 20 0 8)))) m2 c n)))) : Wq g (d + 8) MX5_firstError c n 0 [some (pO 20 9 0)] [] m Q := by
  refine Wq.few (ls' := [some (pO 20 9 0), none]) ⟨rfl, trivial⟩ ?_
  refine Wq.aload_n (t := 20) (r := 9) (j := 0) dX5_firstError_0 rfl ?_
  refine Wq.iconst (v := 0) dX5_firstError_1 (by decide) ?_
  refine Wq.putI dX5_firstError_2 fw_X5_41 ⟨rfl, rfl, by decide⟩ ⟨rfl, by decide, by decide⟩ ⟨rfl, rfl⟩ ?_
  refine Wq.aload_n (t := 20) (r := 9) (j := 0) dX5_firstError_5 rfl ?_
  refine Wq.iconst (v := 0) dX5_firstError_6 (by decide) ?_
  refine Wq.callVI (As := [pI 0]) dX5_firstError_7 fX5_go ml_X5_174 rfl (by decide) rfl (Nat.le_of_ble_eq_true rfl) (Nat.le_of_ble_eq_true rfl) h (fun r1 m2 h => ?_)
  refine Wq.istore_n (ls2 := [some (pO 20 9 0), some (pI r1)]) dX5_firstError_10 (by decide) rfl ?_
  refine Wq.aload_n (t := 20) (r := 9) (j := 0) dX5_firstError_11 rfl ?_
  refine Wq.getf (v := pI (m2.1 9 20 0 9)) dX5_firstError_12 fl_X5_153 ⟨rfl, rfl, by decide⟩ rfl ?_
  refine Wq.ifeq (tgt := 25) dX5_firstError_15 (by decide) (fun q3 => ?_) (fun q3 => ?_)
  · replace h := h.1 q3
    refine Wq.aload_n (t := 20) (r := 9) (j := 0) dX5_firstError_25 rfl ?_
    refine Wq.getf (v := pI (m2.1 9 20 0 6)) dX5_firstError_26 fl_X5_147 ⟨rfl, rfl, by decide⟩ rfl ?_
    exact Wq.iret dX5_firstError_29 (⟨_, rfl, rfl⟩) h
  · replace h := h.2 q3
    refine Wq.aload_n (t := 20) (r := 9) (j := 0) dX5_firstError_18 rfl ?_
    refine Wq.getf (v := pI (m2.1 9 20 0 8)) dX5_firstError_19 fl_X5_150 ⟨rfl, rfl, by decide⟩ rfl ?_
    refine Wq.goto (tgt := 29) dX5_firstError_22 (by decide) ?_
    exact Wq.iret dX5_firstError_29 (⟨_, rfl, rfl⟩) h
set_option maxHeartbeats 4000000 in
set_option maxRecDepth 20000 in
theorem sgX5_run {g : GG} {d : Nat} {c n : Nat} {m : PM} {Q : Ou → PM → Nat → Nat → Prop}  (h : Wp g (d + 7) MX5_go 0 [some (pO 20 9 0), some (pI 0)] [] m (cI fun r1 m2 => (((m2.1 9 20 0 9) = 0 → Wp g (d + 7) MX5_save 0 [some (pO 20 9 0)] [] (setI m2 20 9 0 0 0) (cV fun m5 => Wp g (d + 7) MX5_go 0 [some (pO 20 9 0), some (pI 1)] [] m5 (cI fun r6 m7 => Q (.inl (some (pI r6))) (setI m7 20 9 0 6 0) c n))) ∧ (¬ (m2.1 9 20 0 9) = 0 → Q (.inl (some (pI 0))) (setI m2 20 9 0 0 1) c n)))) : Wq g (d + 8) MX5_run c n 0 [some (pO 20 9 0)] [] m Q := by
  refine Wq.few (ls' := [some (pO 20 9 0), none, none]) ⟨rfl, trivial⟩ ?_
  refine Wq.aload_n (t := 20) (r := 9) (j := 0) dX5_run_0 rfl ?_
  refine Wq.iconst (v := 0) dX5_run_1 (by decide) ?_
  refine Wq.callVI (As := [pI 0]) dX5_run_2 fX5_go ml_X5_174 rfl (by decide) rfl (Nat.le_of_ble_eq_true rfl) (Nat.le_of_ble_eq_true rfl) h (fun r1 m2 h => ?_)
  refine Wq.istore_n (ls2 := [some (pO 20 9 0), some (pI r1), none]) dX5_run_5 (by decide) rfl ?_
  refine Wq.aload_n (t := 20) (r := 9) (j := 0) dX5_run_6 rfl ?_
  refine Wq.aload_n (t := 20) (r := 9) (j := 0) dX5_run_7 rfl ?_
  refine Wq.getf (v := pI (m2.1 9 20 0 9)) dX5_run_8 fl_X5_153 ⟨rfl, rfl, by decide⟩ rfl ?_
  refine Wq.ifeq (tgt := 18) dX5_run_11 (by decide) (fun q3 => ?_) (fun q3 => ?_)
  · replace h := h.1 q3
    refine Wq.iconst (v := 0) dX5_run_18 (by decide) ?_
    refine Wq.callVI (As := [pI 0]) dX5_run_19 fX5_holds ml_X5_86 rfl (by decide) rfl (Nat.le_of_ble_eq_true rfl) (Nat.le_of_ble_eq_true rfl) ?_ (fun _ _ h9 => h9)
    refine Wq.few (ls' := [some (pO 20 9 0), some (pI 0)]) ⟨rfl, ⟨rfl, trivial⟩⟩ ?_
    refine Wq.aload_n (t := 20) (r := 9) (j := 0) dX5_holds_0 rfl ?_
    refine Wq.iload_n (x := 0) dX5_holds_1 rfl ?_
    refine Wq.putI dX5_holds_2 fw_X5_41 ⟨rfl, rfl, by decide⟩ ⟨rfl, by decide, by decide⟩ ⟨rfl, rfl⟩ ?_
    refine Wq.iload_n (x := 0) dX5_holds_5 rfl ?_
    refine Wq.ifne (tgt := 13) dX5_holds_6 (by decide) (fun q9 => absurd q9 (by decide)) (fun _ => ?_)
    refine Wq.iconst (v := 1) dX5_holds_9 (by decide) ?_
    refine Wq.goto (tgt := 14) dX5_holds_10 (by decide) ?_
    refine Wq.iretI dX5_holds_14 (⟨_, rfl, by decide⟩) ?_
    refine Wq.ifne (tgt := 27) dX5_run_22 (by decide) (fun _ => ?_) (fun q9 => absurd q9 (by decide))
    refine Wq.aload_n (t := 20) (r := 9) (j := 0) dX5_run_27 rfl ?_
    refine Wq.callVV (As := []) dX5_run_28 fX5_save ml_X5_90 rfl (by decide) rfl (Nat.le_of_ble_eq_true rfl) (Nat.le_of_ble_eq_true rfl) h (fun m5 h => ?_)
    refine Wq.aload_n (t := 20) (r := 9) (j := 0) dX5_run_31 rfl ?_
    refine Wq.iconst (v := 1) dX5_run_32 (by decide) ?_
    refine Wq.callVI (As := [pI 1]) dX5_run_33 fX5_go ml_X5_174 rfl (by decide) rfl (Nat.le_of_ble_eq_true rfl) (Nat.le_of_ble_eq_true rfl) h (fun r6 m7 h => ?_)
    refine Wq.istore_n (ls2 := [some (pO 20 9 0), some (pI r1), some (pI r6)]) dX5_run_36 (by decide) rfl ?_
    refine Wq.aload_n (t := 20) (r := 9) (j := 0) dX5_run_37 rfl ?_
    refine Wq.iconst (v := 0) dX5_run_38 (by decide) ?_
    refine Wq.putI dX5_run_39 fw_X5_147 ⟨rfl, rfl, by decide⟩ ⟨rfl, by decide, by decide⟩ ⟨rfl, rfl⟩ ?_
    refine Wq.iload_n (x := r6) dX5_run_42 rfl ?_
    exact Wq.iret dX5_run_43 (⟨_, rfl, rfl⟩) h
  · replace h := h.2 q3
    refine Wq.iconst (v := 1) dX5_run_14 (by decide) ?_
    refine Wq.goto (tgt := 19) dX5_run_15 (by decide) ?_
    refine Wq.callVI (As := [pI 1]) dX5_run_19 fX5_holds ml_X5_86 rfl (by decide) rfl (Nat.le_of_ble_eq_true rfl) (Nat.le_of_ble_eq_true rfl) ?_ (fun _ _ h9 => h9)
    refine Wq.few (ls' := [some (pO 20 9 0), some (pI 1)]) ⟨rfl, ⟨rfl, trivial⟩⟩ ?_
    refine Wq.aload_n (t := 20) (r := 9) (j := 0) dX5_holds_0 rfl ?_
    refine Wq.iload_n (x := 1) dX5_holds_1 rfl ?_
    refine Wq.putI dX5_holds_2 fw_X5_41 ⟨rfl, rfl, by decide⟩ ⟨rfl, by decide, by decide⟩ ⟨rfl, rfl⟩ ?_
    refine Wq.iload_n (x := 1) dX5_holds_5 rfl ?_
    refine Wq.ifne (tgt := 13) dX5_holds_6 (by decide) (fun _ => ?_) (fun q9 => absurd q9 (by decide))
    refine Wq.iconst (v := 0) dX5_holds_13 (by decide) ?_
    refine Wq.iretI dX5_holds_14 (⟨_, rfl, by decide⟩) ?_
    refine Wq.ifne (tgt := 27) dX5_run_22 (by decide) (fun q9 => absurd q9 (by decide)) (fun _ => ?_)
    refine Wq.iconst (v := 0) dX5_run_25 (by decide) ?_
    exact Wq.iret dX5_run_26 (⟨_, rfl, rfl⟩) h
