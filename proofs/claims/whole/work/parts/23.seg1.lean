/-! SEGMENTS: rows from a method's entry, and from each loop's head, to the next ones (laid by wip/whole/gen/gen.py) -/
set_option maxHeartbeats 4000000 in
set_option maxRecDepth 20000 in
theorem sgX2_takeNumber {g : GG} {d : Nat} {c n : Nat} {m : PM} {Q : Ou → PM → Nat → Nat → Prop} {x1 : Int32} (h : ((¬ (m.1 8 12 0 1) ≤ (m.1 8 12 0 2) → (vp_in (m.1 8 12 0 2) 60 ∧ (¬ (m.1 8 13 0 (ix (m.1 8 12 0 2))) < 48 → (vp_in (m.1 8 12 0 2) 60 ∧ ((m.1 8 13 0 (ix (m.1 8 12 0 2))) ≤ 57 → (vp_in (m.1 8 12 0 2) 60 ∧ True)))))) ∧ ((((if (m.1 8 12 0 1) ≤ (m.1 8 12 0 2) then (-1) else (if (m.1 8 13 0 (ix (m.1 8 12 0 2))) < 48 then (-1) else (if (m.1 8 13 0 (ix (m.1 8 12 0 2))) ≤ 57 then ((m.1 8 13 0 (ix (m.1 8 12 0 2))) - 48) else (-1)))) : Int32) = (-1) → Q (.inl (some (pI (-1)))) m c n) ∧ (¬ ((if (m.1 8 12 0 1) ≤ (m.1 8 12 0 2) then (-1) else (if (m.1 8 13 0 (ix (m.1 8 12 0 2))) < 48 then (-1) else (if (m.1 8 13 0 (ix (m.1 8 12 0 2))) ≤ 57 then ((m.1 8 13 0 (ix (m.1 8 12 0 2))) - 48) else (-1)))) : Int32) = (-1) → ((((if (m.1 8 12 0 1) ≤ (m.1 8 12 0 2) then (-1) else (if (m.1 8 13 0 (ix (m.1 8 12 0 2))) < 48 then (-1) else (if (m.1 8 13 0 (ix (m.1 8 12 0 2))) ≤ 57 then ((m.1 8 13 0 (ix (m.1 8 12 0 2))) - 48) else (-1)))) : Int32) ≤ x1 → ((¬ ((setI m 12 8 0 2 ((m.1 8 12 0 2) + 1)).1 8 12 0 1) ≤ ((setI m 12 8 0 2 ((m.1 8 12 0 2) + 1)).1 8 12 0 2) → (vp_in ((setI m 12 8 0 2 ((m.1 8 12 0 2) + 1)).1 8 12 0 2) 60 ∧ (¬ ((setI m 12 8 0 2 ((m.1 8 12 0 2) + 1)).1 8 13 0 (ix ((setI m 12 8 0 2 ((m.1 8 12 0 2) + 1)).1 8 12 0 2))) < 48 → (vp_in ((setI m 12 8 0 2 ((m.1 8 12 0 2) + 1)).1 8 12 0 2) 60 ∧ (((setI m 12 8 0 2 ((m.1 8 12 0 2) + 1)).1 8 13 0 (ix ((setI m 12 8 0 2 ((m.1 8 12 0 2) + 1)).1 8 12 0 2))) ≤ 57 → (vp_in ((setI m 12 8 0 2 ((m.1 8 12 0 2) + 1)).1 8 12 0 2) 60 ∧ True)))))) ∧ ((((if (m.1 8 12 0 1) ≤ (m.1 8 12 0 2) then (-1) else (if (m.1 8 13 0 (ix (m.1 8 12 0 2))) < 48 then (-1) else (if (m.1 8 13 0 (ix (m.1 8 12 0 2))) ≤ 57 then ((m.1 8 13 0 (ix (m.1 8 12 0 2))) - 48) else (-1)))) : Int32) = 0 → Q (.inl (some (pI ((if (m.1 8 12 0 1) ≤ (m.1 8 12 0 2) then (-1) else (if (m.1 8 13 0 (ix (m.1 8 12 0 2))) < 48 then (-1) else (if (m.1 8 13 0 (ix (m.1 8 12 0 2))) ≤ 57 then ((m.1 8 13 0 (ix (m.1 8 12 0 2))) - 48) else (-1)))) : Int32)))) (setI m 12 8 0 2 ((m.1 8 12 0 2) + 1)) c n) ∧ (¬ ((if (m.1 8 12 0 1) ≤ (m.1 8 12 0 2) then (-1) else (if (m.1 8 13 0 (ix (m.1 8 12 0 2))) < 48 then (-1) else (if (m.1 8 13 0 (ix (m.1 8 12 0 2))) ≤ 57 then ((m.1 8 13 0 (ix (m.1 8 12 0 2))) - 48) else (-1)))) : Int32) = 0 → ((((if ((setI m 12 8 0 2 ((m.1 8 12 0 2) + 1)).1 8 12 0 1) ≤ ((setI m 12 8 0 2 ((m.1 8 12 0 2) + 1)).1 8 12 0 2) then (-1) else (if ((setI m 12 8 0 2 ((m.1 8 12 0 2) + 1)).1 8 13 0 (ix ((setI m 12 8 0 2 ((m.1 8 12 0 2) + 1)).1 8 12 0 2))) < 48 then (-1) else (if ((setI m 12 8 0 2 ((m.1 8 12 0 2) + 1)).1 8 13 0 (ix ((setI m 12 8 0 2 ((m.1 8 12 0 2) + 1)).1 8 12 0 2))) ≤ 57 then (((setI m 12 8 0 2 ((m.1 8 12 0 2) + 1)).1 8 13 0 (ix ((setI m 12 8 0 2 ((m.1 8 12 0 2) + 1)).1 8 12 0 2))) - 48) else (-1)))) : Int32) = (-1) → Q (.inl (some (pI ((if (m.1 8 12 0 1) ≤ (m.1 8 12 0 2) then (-1) else (if (m.1 8 13 0 (ix (m.1 8 12 0 2))) < 48 then (-1) else (if (m.1 8 13 0 (ix (m.1 8 12 0 2))) ≤ 57 then ((m.1 8 13 0 (ix (m.1 8 12 0 2))) - 48) else (-1)))) : Int32)))) (setI m 12 8 0 2 ((m.1 8 12 0 2) + 1)) c n) ∧ (¬ ((if ((setI m 12 8 0 2 ((m.1 8 12 0 2) + 1)).1 8 12 0 1) ≤ ((setI m 12 8 0 2 ((m.1 8 12 0 2) + 1)).1 8 12 0 2) then (-1) else (if ((setI m 12 8 0 2 ((m.1 8 12 0 2) + 1)).1 8 13 0 (ix ((setI m 12 8 0 2 ((m.1 8 12 0 2) + 1)).1 8 12 0 2))) < 48 then (-1) else (if ((setI m 12 8 0 2 ((m.1 8 12 0 2) + 1)).1 8 13 0 (ix ((setI m 12 8 0 2 ((m.1 8 12 0 2) + 1)).1 8 12 0 2))) ≤ 57 then (((setI m 12 8 0 2 ((m.1 8 12 0 2) + 1)).1 8 13 0 (ix ((setI m 12 8 0 2 ((m.1 8 12 0 2) + 1)).1 8 12 0 2))) - 48) else (-1)))) : Int32) = (-1) → ((((10 * ((if (m.1 8 12 0 1) ≤ (m.1 8 12 0 2) then (-1) else (if (m.1 8 13 0 (ix (m.1 8 12 0 2))) < 48 then (-1) else (if (m.1 8 13 0 (ix (m.1 8 12 0 2))) ≤ 57 then ((m.1 8 13 0 (ix (m.1 8 12 0 2))) - 48) else (-1)))) : Int32)) + ((if ((setI m 12 8 0 2 ((m.1 8 12 0 2) + 1)).1 8 12 0 1) ≤ ((setI m 12 8 0 2 ((m.1 8 12 0 2) + 1)).1 8 12 0 2) then (-1) else (if ((setI m 12 8 0 2 ((m.1 8 12 0 2) + 1)).1 8 13 0 (ix ((setI m 12 8 0 2 ((m.1 8 12 0 2) + 1)).1 8 12 0 2))) < 48 then (-1) else (if ((setI m 12 8 0 2 ((m.1 8 12 0 2) + 1)).1 8 13 0 (ix ((setI m 12 8 0 2 ((m.1 8 12 0 2) + 1)).1 8 12 0 2))) ≤ 57 then (((setI m 12 8 0 2 ((m.1 8 12 0 2) + 1)).1 8 13 0 (ix ((setI m 12 8 0 2 ((m.1 8 12 0 2) + 1)).1 8 12 0 2))) - 48) else (-1)))) : Int32)) ≤ x1 → Q (.inl (some (pI ((10 * ((if (m.1 8 12 0 1) ≤ (m.1 8 12 0 2) then (-1) else (if (m.1 8 13 0 (ix (m.1 8 12 0 2))) < 48 then (-1) else (if (m.1 8 13 0 (ix (m.1 8 12 0 2))) ≤ 57 then ((m.1 8 13 0 (ix (m.1 8 12 0 2))) - 48) else (-1)))) : Int32)) + ((if ((setI m 12 8 0 2 ((m.1 8 12 0 2) + 1)).1 8 12 0 1) ≤ ((setI m 12 8 0 2 ((m.1 8 12 0 2) + 1)).1 8 12 0 2) then (-1) else (if ((setI m 12 8 0 2 ((m.1 8 12 0 2) + 1)).1 8 13 0 (ix ((setI m 12 8 0 2 ((m.1 8 12 0 2) + 1)).1 8 12 0 2))) < 48 then (-1) else (if ((setI m 12 8 0 2 ((m.1 8 12 0 2) + 1)).1 8 13 0 (ix ((setI m 12 8 0 2 ((m.1 8 12 0 2) + 1)).1 8 12 0 2))) ≤ 57 then (((setI m 12 8 0 2 ((m.1 8 12 0 2) + 1)).1 8 13 0 (ix ((setI m 12 8 0 2 ((m.1 8 12 0 2) + 1)).1 8 12 0 2))) - 48) else (-1)))) : Int32))))) (setI (setI m 12 8 0 2 ((m.1 8 12 0 2) + 1)) 12 8 0 2 (((setI m 12 8 0 2 ((m.1 8 12 0 2) + 1)).1 8 12 0 2) + 1)) c n) ∧ (¬ ((10 * ((if (m.1 8 12 0 1) ≤ (m.1 8 12 0 2) then (-1) else (if (m.1 8 13 0 (ix (m.1 8 12 0 2))) < 48 then (-1) else (if (m.1 8 13 0 (ix (m.1 8 12 0 2))) ≤ 57 then ((m.1 8 13 0 (ix (m.1 8 12 0 2))) - 48) else (-1)))) : Int32)) + ((if ((setI m 12 8 0 2 ((m.1 8 12 0 2) + 1)).1 8 12 0 1) ≤ ((setI m 12 8 0 2 ((m.1 8 12 0 2) + 1)).1 8 12 0 2) then (-1) else (if ((setI m 12 8 0 2 ((m.1 8 12 0 2) + 1)).1 8 13 0 (ix ((setI m 12 8 0 2 ((m.1 8 12 0 2) + 1)).1 8 12 0 2))) < 48 then (-1) else (if ((setI m 12 8 0 2 ((m.1 8 12 0 2) + 1)).1 8 13 0 (ix ((setI m 12 8 0 2 ((m.1 8 12 0 2) + 1)).1 8 12 0 2))) ≤ 57 then (((setI m 12 8 0 2 ((m.1 8 12 0 2) + 1)).1 8 13 0 (ix ((setI m 12 8 0 2 ((m.1 8 12 0 2) + 1)).1 8 12 0 2))) - 48) else (-1)))) : Int32)) ≤ x1 → Q (.inl (some (pI ((if (m.1 8 12 0 1) ≤ (m.1 8 12 0 2) then (-1) else (if (m.1 8 13 0 (ix (m.1 8 12 0 2))) < 48 then (-1) else (if (m.1 8 13 0 (ix (m.1 8 12 0 2))) ≤ 57 then ((m.1 8 13 0 (ix (m.1 8 12 0 2))) - 48) else (-1)))) : Int32)))) (setI m 12 8 0 2 ((m.1 8 12 0 2) + 1)) c n)))))))) ∧ (¬ ((if (m.1 8 12 0 1) ≤ (m.1 8 12 0 2) then (-1) else (if (m.1 8 13 0 (ix (m.1 8 12 0 2))) < 48 then (-1) else (if (m.1 8 13 0 (ix (m.1 8 12 0 2))) ≤ 57 then ((m.1 8 13 0 (ix (m.1 8 12 0 2))) - 48) else (-1)))) : Int32) ≤ x1 → Q (.inl (some (pI (-1)))) m c n)))))) : Wq g (d + 1) MX2_takeNumber c n 0 [some (pO 12 8 0), some (pI x1)] [] m Q := by
  refine Wq.few (ls' := [some (pO 12 8 0), some (pI x1), none, none]) ⟨rfl, ⟨rfl, trivial⟩⟩ ?_
  refine Wq.aload_n (t := 12) (r := 8) (j := 0) dX2_takeNumber_0 rfl ?_
  refine Wq.callVI (As := []) dX2_takeNumber_1 fX2_digitAhead ml_X2_78 rfl (by decide) rfl (Nat.le_of_ble_eq_true rfl) (Nat.le_of_ble_eq_true rfl) (suX2_digitAhead h.1) (fun x7 m9 e9 => ?_)
  obtain ⟨rfl, rfl⟩ := e9
  replace h := h.2
  refine Wq.istore_n (ls2 := [some (pO 12 8 0), some (pI x1), some (pI ((if (m.1 8 12 0 1) ≤ (m.1 8 12 0 2) then (-1) else (if (m.1 8 13 0 (ix (m.1 8 12 0 2))) < 48 then (-1) else (if (m.1 8 13 0 (ix (m.1 8 12 0 2))) ≤ 57 then ((m.1 8 13 0 (ix (m.1 8 12 0 2))) - 48) else (-1)))) : Int32)), none]) dX2_takeNumber_4 (by decide) rfl ?_
  refine Wq.iload_n (x := ((if (m.1 8 12 0 1) ≤ (m.1 8 12 0 2) then (-1) else (if (m.1 8 13 0 (ix (m.1 8 12 0 2))) < 48 then (-1) else (if (m.1 8 13 0 (ix (m.1 8 12 0 2))) ≤ 57 then ((m.1 8 13 0 (ix (m.1 8 12 0 2))) - 48) else (-1)))) : Int32)) dX2_takeNumber_5 rfl ?_
  refine Wq.iconst (v := (-1)) dX2_takeNumber_6 (by decide) ?_
  refine Wq.icmpeq (tgt := 15) dX2_takeNumber_7 (by decide) (fun q1 => ?_) (fun q1 => ?_)
  · replace h := h.1 q1
    refine Wq.iconst (v := (-1)) dX2_takeNumber_15 (by decide) ?_
    exact Wq.iret dX2_takeNumber_16 (⟨_, rfl, rfl⟩) h
  · replace h := h.2 q1
    refine Wq.iload_n (x := ((if (m.1 8 12 0 1) ≤ (m.1 8 12 0 2) then (-1) else (if (m.1 8 13 0 (ix (m.1 8 12 0 2))) < 48 then (-1) else (if (m.1 8 13 0 (ix (m.1 8 12 0 2))) ≤ 57 then ((m.1 8 13 0 (ix (m.1 8 12 0 2))) - 48) else (-1)))) : Int32)) dX2_takeNumber_10 rfl ?_
    refine Wq.iload_n (x := x1) dX2_takeNumber_11 rfl ?_
    refine Wq.icmple (tgt := 17) dX2_takeNumber_12 (by decide) (fun q2 => ?_) (fun q2 => ?_)
    · replace h := h.1 q2
      refine Wq.aload_n (t := 12) (r := 8) (j := 0) dX2_takeNumber_17 rfl ?_
      refine Wq.dup dX2_takeNumber_18 rfl ?_
      refine Wq.getf (v := pI (m.1 8 12 0 2)) dX2_takeNumber_19 fl_X2_19 ⟨rfl, rfl, by decide⟩ rfl ?_
      refine Wq.iconst (v := 1) dX2_takeNumber_22 (by decide) ?_
      refine Wq.iadd dX2_takeNumber_23 ?_
      refine Wq.putI dX2_takeNumber_24 fw_X2_19 ⟨rfl, rfl, by decide⟩ ⟨rfl, by decide, by decide⟩ ⟨rfl, rfl⟩ ?_
      refine Wq.aload_n (t := 12) (r := 8) (j := 0) dX2_takeNumber_27 rfl ?_
      refine Wq.callVI (As := []) dX2_takeNumber_28 fX2_digitAhead ml_X2_78 rfl (by decide) rfl (Nat.le_of_ble_eq_true rfl) (Nat.le_of_ble_eq_true rfl) (suX2_digitAhead h.1) (fun x6 m9 e9 => ?_)
      obtain ⟨rfl, rfl⟩ := e9
      replace h := h.2
      refine Wq.istore_n (ls2 := [some (pO 12 8 0), some (pI x1), some (pI ((if (m.1 8 12 0 1) ≤ (m.1 8 12 0 2) then (-1) else (if (m.1 8 13 0 (ix (m.1 8 12 0 2))) < 48 then (-1) else (if (m.1 8 13 0 (ix (m.1 8 12 0 2))) ≤ 57 then ((m.1 8 13 0 (ix (m.1 8 12 0 2))) - 48) else (-1)))) : Int32)), some (pI ((if ((setI m 12 8 0 2 ((m.1 8 12 0 2) + 1)).1 8 12 0 1) ≤ ((setI m 12 8 0 2 ((m.1 8 12 0 2) + 1)).1 8 12 0 2) then (-1) else (if ((setI m 12 8 0 2 ((m.1 8 12 0 2) + 1)).1 8 13 0 (ix ((setI m 12 8 0 2 ((m.1 8 12 0 2) + 1)).1 8 12 0 2))) < 48 then (-1) else (if ((setI m 12 8 0 2 ((m.1 8 12 0 2) + 1)).1 8 13 0 (ix ((setI m 12 8 0 2 ((m.1 8 12 0 2) + 1)).1 8 12 0 2))) ≤ 57 then (((setI m 12 8 0 2 ((m.1 8 12 0 2) + 1)).1 8 13 0 (ix ((setI m 12 8 0 2 ((m.1 8 12 0 2) + 1)).1 8 12 0 2))) - 48) else (-1)))) : Int32))]) dX2_takeNumber_31 (by decide) rfl ?_
      refine Wq.iload_n (x := ((if (m.1 8 12 0 1) ≤ (m.1 8 12 0 2) then (-1) else (if (m.1 8 13 0 (ix (m.1 8 12 0 2))) < 48 then (-1) else (if (m.1 8 13 0 (ix (m.1 8 12 0 2))) ≤ 57 then ((m.1 8 13 0 (ix (m.1 8 12 0 2))) - 48) else (-1)))) : Int32)) dX2_takeNumber_32 rfl ?_
      refine Wq.ifeq (tgt := 51) dX2_takeNumber_33 (by decide) (fun q3 => ?_) (fun q3 => ?_)
      · replace h := h.1 q3
        refine Wq.iload_n (x := ((if (m.1 8 12 0 1) ≤ (m.1 8 12 0 2) then (-1) else (if (m.1 8 13 0 (ix (m.1 8 12 0 2))) < 48 then (-1) else (if (m.1 8 13 0 (ix (m.1 8 12 0 2))) ≤ 57 then ((m.1 8 13 0 (ix (m.1 8 12 0 2))) - 48) else (-1)))) : Int32)) dX2_takeNumber_51 rfl ?_
        exact Wq.iret dX2_takeNumber_52 (⟨_, rfl, rfl⟩) h
      · replace h := h.2 q3
        refine Wq.iload_n (x := ((if ((setI m 12 8 0 2 ((m.1 8 12 0 2) + 1)).1 8 12 0 1) ≤ ((setI m 12 8 0 2 ((m.1 8 12 0 2) + 1)).1 8 12 0 2) then (-1) else (if ((setI m 12 8 0 2 ((m.1 8 12 0 2) + 1)).1 8 13 0 (ix ((setI m 12 8 0 2 ((m.1 8 12 0 2) + 1)).1 8 12 0 2))) < 48 then (-1) else (if ((setI m 12 8 0 2 ((m.1 8 12 0 2) + 1)).1 8 13 0 (ix ((setI m 12 8 0 2 ((m.1 8 12 0 2) + 1)).1 8 12 0 2))) ≤ 57 then (((setI m 12 8 0 2 ((m.1 8 12 0 2) + 1)).1 8 13 0 (ix ((setI m 12 8 0 2 ((m.1 8 12 0 2) + 1)).1 8 12 0 2))) - 48) else (-1)))) : Int32)) dX2_takeNumber_36 rfl ?_
        refine Wq.iconst (v := (-1)) dX2_takeNumber_37 (by decide) ?_
        refine Wq.icmpeq (tgt := 51) dX2_takeNumber_38 (by decide) (fun q4 => ?_) (fun q4 => ?_)
        · replace h := h.1 q4
          refine Wq.iload_n (x := ((if (m.1 8 12 0 1) ≤ (m.1 8 12 0 2) then (-1) else (if (m.1 8 13 0 (ix (m.1 8 12 0 2))) < 48 then (-1) else (if (m.1 8 13 0 (ix (m.1 8 12 0 2))) ≤ 57 then ((m.1 8 13 0 (ix (m.1 8 12 0 2))) - 48) else (-1)))) : Int32)) dX2_takeNumber_51 rfl ?_
          exact Wq.iret dX2_takeNumber_52 (⟨_, rfl, rfl⟩) h
        · replace h := h.2 q4
          refine Wq.bipush (v := 10) dX2_takeNumber_41 (by decide) ?_
          refine Wq.iload_n (x := ((if (m.1 8 12 0 1) ≤ (m.1 8 12 0 2) then (-1) else (if (m.1 8 13 0 (ix (m.1 8 12 0 2))) < 48 then (-1) else (if (m.1 8 13 0 (ix (m.1 8 12 0 2))) ≤ 57 then ((m.1 8 13 0 (ix (m.1 8 12 0 2))) - 48) else (-1)))) : Int32)) dX2_takeNumber_43 rfl ?_
          refine Wq.imul dX2_takeNumber_44 ?_
          refine Wq.iload_n (x := ((if ((setI m 12 8 0 2 ((m.1 8 12 0 2) + 1)).1 8 12 0 1) ≤ ((setI m 12 8 0 2 ((m.1 8 12 0 2) + 1)).1 8 12 0 2) then (-1) else (if ((setI m 12 8 0 2 ((m.1 8 12 0 2) + 1)).1 8 13 0 (ix ((setI m 12 8 0 2 ((m.1 8 12 0 2) + 1)).1 8 12 0 2))) < 48 then (-1) else (if ((setI m 12 8 0 2 ((m.1 8 12 0 2) + 1)).1 8 13 0 (ix ((setI m 12 8 0 2 ((m.1 8 12 0 2) + 1)).1 8 12 0 2))) ≤ 57 then (((setI m 12 8 0 2 ((m.1 8 12 0 2) + 1)).1 8 13 0 (ix ((setI m 12 8 0 2 ((m.1 8 12 0 2) + 1)).1 8 12 0 2))) - 48) else (-1)))) : Int32)) dX2_takeNumber_45 rfl ?_
          refine Wq.iadd dX2_takeNumber_46 ?_
          refine Wq.iload_n (x := x1) dX2_takeNumber_47 rfl ?_
          refine Wq.icmple (tgt := 53) dX2_takeNumber_48 (by decide) (fun q5 => ?_) (fun q5 => ?_)
          · replace h := h.1 q5
            refine Wq.aload_n (t := 12) (r := 8) (j := 0) dX2_takeNumber_53 rfl ?_
            refine Wq.dup dX2_takeNumber_54 rfl ?_
            refine Wq.getf (v := pI ((setI m 12 8 0 2 ((m.1 8 12 0 2) + 1)).1 8 12 0 2)) dX2_takeNumber_55 fl_X2_19 ⟨rfl, rfl, by decide⟩ rfl ?_
            refine Wq.iconst (v := 1) dX2_takeNumber_58 (by decide) ?_
            refine Wq.iadd dX2_takeNumber_59 ?_
            refine Wq.putI dX2_takeNumber_60 fw_X2_19 ⟨rfl, rfl, by decide⟩ ⟨rfl, by decide, by decide⟩ ⟨rfl, rfl⟩ ?_
            refine Wq.bipush (v := 10) dX2_takeNumber_63 (by decide) ?_
            refine Wq.iload_n (x := ((if (m.1 8 12 0 1) ≤ (m.1 8 12 0 2) then (-1) else (if (m.1 8 13 0 (ix (m.1 8 12 0 2))) < 48 then (-1) else (if (m.1 8 13 0 (ix (m.1 8 12 0 2))) ≤ 57 then ((m.1 8 13 0 (ix (m.1 8 12 0 2))) - 48) else (-1)))) : Int32)) dX2_takeNumber_65 rfl ?_
            refine Wq.imul dX2_takeNumber_66 ?_
            refine Wq.iload_n (x := ((if ((setI m 12 8 0 2 ((m.1 8 12 0 2) + 1)).1 8 12 0 1) ≤ ((setI m 12 8 0 2 ((m.1 8 12 0 2) + 1)).1 8 12 0 2) then (-1) else (if ((setI m 12 8 0 2 ((m.1 8 12 0 2) + 1)).1 8 13 0 (ix ((setI m 12 8 0 2 ((m.1 8 12 0 2) + 1)).1 8 12 0 2))) < 48 then (-1) else (if ((setI m 12 8 0 2 ((m.1 8 12 0 2) + 1)).1 8 13 0 (ix ((setI m 12 8 0 2 ((m.1 8 12 0 2) + 1)).1 8 12 0 2))) ≤ 57 then (((setI m 12 8 0 2 ((m.1 8 12 0 2) + 1)).1 8 13 0 (ix ((setI m 12 8 0 2 ((m.1 8 12 0 2) + 1)).1 8 12 0 2))) - 48) else (-1)))) : Int32)) dX2_takeNumber_67 rfl ?_
            refine Wq.iadd dX2_takeNumber_68 ?_
            exact Wq.iret dX2_takeNumber_69 (⟨_, rfl, rfl⟩) h
          · replace h := h.2 q5
            refine Wq.iload_n (x := ((if (m.1 8 12 0 1) ≤ (m.1 8 12 0 2) then (-1) else (if (m.1 8 13 0 (ix (m.1 8 12 0 2))) < 48 then (-1) else (if (m.1 8 13 0 (ix (m.1 8 12 0 2))) ≤ 57 then ((m.1 8 13 0 (ix (m.1 8 12 0 2))) - 48) else (-1)))) : Int32)) dX2_takeNumber_51 rfl ?_
            exact Wq.iret dX2_takeNumber_52 (⟨_, rfl, rfl⟩) h
    · replace h := h.2 q2
      refine Wq.iconst (v := (-1)) dX2_takeNumber_15 (by decide) ?_
      exact Wq.iret dX2_takeNumber_16 (⟨_, rfl, rfl⟩) h
set_option maxHeartbeats 4000000 in
set_option maxRecDepth 20000 in
theorem sgX2_kindAhead {g : GG} {d : Nat} {c n : Nat} {m : PM} {Q : Ou → PM → Nat → Nat → Prop}  (h : Wq g (d + 4) MX2_kindAhead c n 2 [some (pO 12 8 0), some (pI 0)] [] m Q) : Wq g (d + 4) MX2_kindAhead c n 0 [some (pO 12 8 0)] [] m Q := by
  refine Wq.few (ls' := [some (pO 12 8 0), none]) ⟨rfl, trivial⟩ ?_
  refine Wq.iconst (v := 0) dX2_kindAhead_0 (by decide) ?_
  refine Wq.istore_n (ls2 := [some (pO 12 8 0), some (pI 0)]) dX2_kindAhead_1 (by decide) rfl ?_
  exact h
set_option maxHeartbeats 4000000 in
set_option maxRecDepth 20000 in
theorem sgX2_kindAhead_2 {g : GG} {d : Nat} {c n : Nat} {m : PM} {Q : Ou → PM → Nat → Nat → Prop} {x1 : Int32} (h : ((5 < x1 → Q (.inl (some (pI (-1)))) m c n) ∧ (¬ 5 < x1 → (((m.1 8 12 0 1) ≤ (m.1 8 12 0 2) → Wq g (d + 4) MX2_kindAhead c n 2 [some (pO 12 8 0), some (pI (x1 + 1))] [] m Q) ∧ (¬ (m.1 8 12 0 1) ≤ (m.1 8 12 0 2) → (vp_in (m.1 8 12 0 2) 60 ∧ (((¬ (0 : Int32) < 0 ∧ ((0 : Int32) < (nI (wdL.getD ((if x1 = 0 then 0 else (if x1 = 1 then 1 else (if x1 = 2 then 2 else (if x1 = 3 then 3 else (if x1 = 4 then 4 else 5))))) : Nat) 0)) ∧ (vp_in (0 : Int32) (wdL.getD ((if x1 = 0 then 0 else (if x1 = 1 then 1 else (if x1 = 2 then 2 else (if x1 = 3 then 3 else (if x1 = 4 then 4 else 5))))) : Nat) 0) ∧ True))) ∧ True) ∧ ((¬ (m.1 8 13 0 (ix (m.1 8 12 0 2))) = (Int32.toUInt32 (((wdB.getD ((if x1 = 0 then 0 else (if x1 = 1 then 1 else (if x1 = 2 then 2 else (if x1 = 3 then 3 else (if x1 = 4 then 4 else 5))))) : Nat) []).getD (ix (0 : Int32)) 0) &&& 255) % 65536).toInt32 → Wq g (d + 4) MX2_kindAhead c n 2 [some (pO 12 8 0), some (pI (x1 + 1))] [] m Q) ∧ ((m.1 8 13 0 (ix (m.1 8 12 0 2))) = (Int32.toUInt32 (((wdB.getD ((if x1 = 0 then 0 else (if x1 = 1 then 1 else (if x1 = 2 then 2 else (if x1 = 3 then 3 else (if x1 = 4 then 4 else 5))))) : Nat) []).getD (ix (0 : Int32)) 0) &&& 255) % 65536).toInt32 → Q (.inl (some (pI x1))) m c n))))))))) : Wq g (d + 4) MX2_kindAhead c n 2 [some (pO 12 8 0), some (pI x1)] [] m Q := by
  refine Wq.iload_n (x := x1) dX2_kindAhead_2 rfl ?_
  refine Wq.iconst (v := 5) dX2_kindAhead_3 (by decide) ?_
  refine Wq.icmpgt (tgt := 46) dX2_kindAhead_4 (by decide) (fun q1 => ?_) (fun q1 => ?_)
  · replace h := h.1 q1
    refine Wq.iconst (v := (-1)) dX2_kindAhead_46 (by decide) ?_
    exact Wq.iret dX2_kindAhead_47 (⟨_, rfl, rfl⟩) h
  · replace h := h.2 q1
    refine Wq.aload_n (t := 12) (r := 8) (j := 0) dX2_kindAhead_7 rfl ?_
    refine Wq.getf (v := pI (m.1 8 12 0 2)) dX2_kindAhead_8 fl_X2_19 ⟨rfl, rfl, by decide⟩ rfl ?_
    refine Wq.aload_n (t := 12) (r := 8) (j := 0) dX2_kindAhead_11 rfl ?_
    refine Wq.getf (v := pI (m.1 8 12 0 1)) dX2_kindAhead_12 fl_X2_15 ⟨rfl, rfl, by decide⟩ rfl ?_
    refine Wq.icmpge (tgt := 40) dX2_kindAhead_15 (by decide) (fun q2 => ?_) (fun q2 => ?_)
    · replace h := h.1 q2
      refine Wq.iinc (x := x1) (ls2 := [some (pO 12 8 0), some (pI (x1 + 1))]) dX2_kindAhead_40 rfl (by decide) rfl ?_
      refine Wq.goto (tgt := 2) dX2_kindAhead_43 (by decide) ?_
      exact h
    · replace h := h.2 q2
      refine Wq.aload_n (t := 12) (r := 8) (j := 0) dX2_kindAhead_18 rfl ?_
      refine Wq.getf (v := pO 13 8 0) dX2_kindAhead_19 fl_X2_9 ⟨rfl, rfl, by decide⟩ rfl ?_
      refine Wq.aload_n (t := 12) (r := 8) (j := 0) dX2_kindAhead_22 rfl ?_
      refine Wq.getf (v := pI (m.1 8 12 0 2)) dX2_kindAhead_23 fl_X2_19 ⟨rfl, rfl, by decide⟩ rfl ?_
      refine Wq.iald dX2_kindAhead_26 rfl h.1 ?_
      replace h := h.2
      refine Wq.iload_n (x := x1) dX2_kindAhead_27 rfl ?_
      refine Wq.callSO (As := [pI x1]) dX2_kindAhead_28 fX2_wordOf ml_X2_46 rfl (Nat.le_of_ble_eq_true rfl) (Nat.le_of_ble_eq_true rfl) (suX2_wordOf trivial) (fun t9 r9 j9 m9 e9 => ?_)
      obtain ⟨rfl, rfl, rfl, rfl⟩ := e9
      refine Wq.iconst (v := 0) dX2_kindAhead_31 (by decide) ?_
      refine Wq.callStr (As := [pI 0]) dX2_kindAhead_32 fJ0_charAt_5068e ml_X2_58 rfl rfl (Nat.le_of_ble_eq_true rfl) (Nat.le_of_ble_eq_true rfl) (suJ0_charAt_5068e h.1) (fun x4 m9 e9 => ?_)
      obtain ⟨rfl, rfl⟩ := e9
      replace h := h.2
      refine Wq.icmpne (tgt := 40) dX2_kindAhead_35 (by decide) (fun q3 => ?_) (fun q3 => ?_)
      · replace h := h.1 q3
        refine Wq.iinc (x := x1) (ls2 := [some (pO 12 8 0), some (pI (x1 + 1))]) dX2_kindAhead_40 rfl (by decide) rfl ?_
        refine Wq.goto (tgt := 2) dX2_kindAhead_43 (by decide) ?_
        exact h
      · replace h := h.2 q3
        refine Wq.iload_n (x := x1) dX2_kindAhead_38 rfl ?_
        exact Wq.iret dX2_kindAhead_39 (⟨_, rfl, rfl⟩) h
set_option maxHeartbeats 4000000 in
set_option maxRecDepth 20000 in
theorem sgX2_takeWord {g : GG} {d : Nat} {c n : Nat} {m : PM} {Q : Ou → PM → Nat → Nat → Prop} {j1 : Nat} (h : Wq g (d + 4) MX2_takeWord c n 2 [some (pO 12 8 0), some (pO 44 10 j1), some (pI 0)] [] m Q) : Wq g (d + 4) MX2_takeWord c n 0 [some (pO 12 8 0), some (pO 44 10 j1)] [] m Q := by
  refine Wq.few (ls' := [some (pO 12 8 0), some (pO 44 10 j1), none]) ⟨rfl, ⟨rfl, trivial⟩⟩ ?_
  refine Wq.iconst (v := 0) dX2_takeWord_0 (by decide) ?_
  refine Wq.istore_n (ls2 := [some (pO 12 8 0), some (pO 44 10 j1), some (pI 0)]) dX2_takeWord_1 (by decide) rfl ?_
  exact h
set_option maxHeartbeats 4000000 in
set_option maxRecDepth 20000 in
theorem sgX2_takeWord_2 {g : GG} {d : Nat} {c n : Nat} {m : PM} {Q : Ou → PM → Nat → Nat → Prop} {j1 : Nat} {x2 : Int32} (h : ((((nI (wdL.getD j1 0)) >>> (0 &&& 31)) ≤ x2 → Q (.inl (some (pI 1))) m c n) ∧ (¬ ((nI (wdL.getD j1 0)) >>> (0 &&& 31)) ≤ x2 → (((¬ x2 < 0 ∧ (x2 < (nI (wdL.getD j1 0)) ∧ (vp_in x2 (wdL.getD j1 0) ∧ True))) ∧ True) ∧ (((m.1 8 12 0 1) ≤ (m.1 8 12 0 2) → Q (.inl (some (pI 0))) m c n) ∧ (¬ (m.1 8 12 0 1) ≤ (m.1 8 12 0 2) → (vp_in (m.1 8 12 0 2) 60 ∧ (((m.1 8 13 0 (ix (m.1 8 12 0 2))) = (Int32.toUInt32 (((wdB.getD j1 []).getD (ix x2) 0) &&& 255) % 65536).toInt32 → Wq g (d + 4) MX2_takeWord c n 2 [some (pO 12 8 0), some (pO 44 10 j1), some (pI (x2 + 1))] [] (setI m 12 8 0 2 ((m.1 8 12 0 2) + 1)) Q) ∧ (¬ (m.1 8 13 0 (ix (m.1 8 12 0 2))) = (Int32.toUInt32 (((wdB.getD j1 []).getD (ix x2) 0) &&& 255) % 65536).toInt32 → Q (.inl (some (pI 0))) m c n))))))))) : Wq g (d + 4) MX2_takeWord c n 2 [some (pO 12 8 0), some (pO 44 10 j1), some (pI x2)] [] m Q := by
  refine Wq.iload_n (x := x2) dX2_takeWord_2 rfl ?_
  refine Wq.aload_n (t := 44) (r := 10) (j := j1) dX2_takeWord_3 rfl ?_
  refine Wq.callStr (As := []) dX2_takeWord_4 fJ0_length_8abf5 ml_X2_76 rfl rfl (Nat.le_of_ble_eq_true rfl) (Nat.le_of_ble_eq_true rfl) (suJ0_length_8abf5 trivial) (fun x5 m9 e9 => ?_)
  obtain ⟨rfl, rfl⟩ := e9
  refine Wq.icmpge (tgt := 30) dX2_takeWord_7 (by decide) (fun q1 => ?_) (fun q1 => ?_)
  · replace h := h.1 q1
    refine Wq.iconst (v := 1) dX2_takeWord_30 (by decide) ?_
    exact Wq.iret dX2_takeWord_31 (⟨_, rfl, by decide⟩) h
  · replace h := h.2 q1
    refine Wq.aload_n (t := 12) (r := 8) (j := 0) dX2_takeWord_10 rfl ?_
    refine Wq.aload_n (t := 44) (r := 10) (j := j1) dX2_takeWord_11 rfl ?_
    refine Wq.iload_n (x := x2) dX2_takeWord_12 rfl ?_
    refine Wq.callStr (As := [pI x2]) dX2_takeWord_13 fJ0_charAt_5068e ml_X2_58 rfl rfl (Nat.le_of_ble_eq_true rfl) (Nat.le_of_ble_eq_true rfl) (suJ0_charAt_5068e h.1) (fun x4 m9 e9 => ?_)
    obtain ⟨rfl, rfl⟩ := e9
    replace h := h.2
    refine Wq.callVI (As := [pI (Int32.toUInt32 (((wdB.getD j1 []).getD (ix x2) 0) &&& 255) % 65536).toInt32]) dX2_takeWord_16 fX2_take ml_X2_38 rfl (by decide) rfl (Nat.le_of_ble_eq_true rfl) (Nat.le_of_ble_eq_true rfl) ?_ (fun _ _ h9 => h9)
    refine Wq.few (ls' := [some (pO 12 8 0), some (pI (Int32.toUInt32 (((wdB.getD j1 []).getD (ix x2) 0) &&& 255) % 65536).toInt32)]) ⟨rfl, ⟨rfl, trivial⟩⟩ ?_
    refine Wq.aload_n (t := 12) (r := 8) (j := 0) dX2_take_0 rfl ?_
    refine Wq.getf (v := pI (m.1 8 12 0 2)) dX2_take_1 fl_X2_19 ⟨rfl, rfl, by decide⟩ rfl ?_
    refine Wq.aload_n (t := 12) (r := 8) (j := 0) dX2_take_4 rfl ?_
    refine Wq.getf (v := pI (m.1 8 12 0 1)) dX2_take_5 fl_X2_15 ⟨rfl, rfl, by decide⟩ rfl ?_
    refine Wq.icmpge (tgt := 24) dX2_take_8 (by decide) (fun q2 => ?_) (fun q2 => ?_)
    · replace h := h.1 q2
      refine Wq.iconst (v := 0) dX2_take_24 (by decide) ?_
      refine Wq.iretI dX2_take_25 (⟨_, rfl, by decide⟩) ?_
      refine Wq.ifne (tgt := 24) dX2_takeWord_19 (by decide) (fun q9 => absurd q9 (by decide)) (fun _ => ?_)
      refine Wq.iconst (v := 0) dX2_takeWord_22 (by decide) ?_
      exact Wq.iret dX2_takeWord_23 (⟨_, rfl, by decide⟩) h
    · replace h := h.2 q2
      refine Wq.aload_n (t := 12) (r := 8) (j := 0) dX2_take_11 rfl ?_
      refine Wq.getf (v := pO 13 8 0) dX2_take_12 fl_X2_9 ⟨rfl, rfl, by decide⟩ rfl ?_
      refine Wq.aload_n (t := 12) (r := 8) (j := 0) dX2_take_15 rfl ?_
      refine Wq.getf (v := pI (m.1 8 12 0 2)) dX2_take_16 fl_X2_19 ⟨rfl, rfl, by decide⟩ rfl ?_
      refine Wq.iald dX2_take_19 rfl h.1 ?_
      replace h := h.2
      refine Wq.iload_n (x := (Int32.toUInt32 (((wdB.getD j1 []).getD (ix x2) 0) &&& 255) % 65536).toInt32) dX2_take_20 rfl ?_
      refine Wq.icmpeq (tgt := 26) dX2_take_21 (by decide) (fun q3 => ?_) (fun q3 => ?_)
      · replace h := h.1 q3
        refine Wq.aload_n (t := 12) (r := 8) (j := 0) dX2_take_26 rfl ?_
        refine Wq.dup dX2_take_27 rfl ?_
        refine Wq.getf (v := pI (m.1 8 12 0 2)) dX2_take_28 fl_X2_19 ⟨rfl, rfl, by decide⟩ rfl ?_
        refine Wq.iconst (v := 1) dX2_take_31 (by decide) ?_
        refine Wq.iadd dX2_take_32 ?_
        refine Wq.putI dX2_take_33 fw_X2_19 ⟨rfl, rfl, by decide⟩ ⟨rfl, by decide, by decide⟩ ⟨rfl, rfl⟩ ?_
        refine Wq.iconst (v := 1) dX2_take_36 (by decide) ?_
        refine Wq.iretI dX2_take_37 (⟨_, rfl, by decide⟩) ?_
        refine Wq.ifne (tgt := 24) dX2_takeWord_19 (by decide) (fun _ => ?_) (fun q9 => absurd q9 (by decide))
        refine Wq.iinc (x := x2) (ls2 := [some (pO 12 8 0), some (pO 44 10 j1), some (pI (x2 + 1))]) dX2_takeWord_24 rfl (by decide) rfl ?_
        refine Wq.goto (tgt := 2) dX2_takeWord_27 (by decide) ?_
        exact h
      · replace h := h.2 q3
        refine Wq.iconst (v := 0) dX2_take_24 (by decide) ?_
        refine Wq.iretI dX2_take_25 (⟨_, rfl, by decide⟩) ?_
        refine Wq.ifne (tgt := 24) dX2_takeWord_19 (by decide) (fun q9 => absurd q9 (by decide)) (fun _ => ?_)
        refine Wq.iconst (v := 0) dX2_takeWord_22 (by decide) ?_
        exact Wq.iret dX2_takeWord_23 (⟨_, rfl, by decide⟩) h
set_option maxHeartbeats 4000000 in
set_option maxRecDepth 20000 in
theorem sgX2_readOrder {g : GG} {d : Nat} {c n : Nat} {m : PM} {Q : Ou → PM → Nat → Nat → Prop}  (h : Wp g (d + 4) MX2_kindAhead 0 [some (pO 12 8 0)] [] m (cI fun r1 m2 => ((r1 = (-1) → Q (.inl (some (pI 0))) m2 c n) ∧ (¬ r1 = (-1) → Wp g (d + 4) MX2_takeWord 0 [some (pO 12 8 0), some (pO 44 10 ((if r1 = 0 then 0 else (if r1 = 1 then 1 else (if r1 = 2 then 2 else (if r1 = 3 then 3 else (if r1 = 4 then 4 else 5))))) : Nat))] [] m2 (cI fun r4 m5 => ((¬ r4 = 0 → (vp_in (m5.1 8 12 0 3) 60 ∧ ((¬ r1 = 5 → ((¬ r1 = 4 → Wp g (d + 4) MX2_takeNumber 0 [some (pO 12 8 0), some (pI 11)] [] (setI m5 14 8 0 (ix (m5.1 8 12 0 3)) r1) (cI fun r9 m10 => (vp_in ((setI m5 14 8 0 (ix (m5.1 8 12 0 3)) r1).1 8 12 0 3) 60 ∧ (vp_in ((setI m10 15 8 0 (ix ((setI m5 14 8 0 (ix (m5.1 8 12 0 3)) r1).1 8 12 0 3)) r9).1 8 12 0 3) 60 ∧ ((((setI m10 15 8 0 (ix ((setI m5 14 8 0 (ix (m5.1 8 12 0 3)) r1).1 8 12 0 3)) r9).1 8 15 0 (ix ((setI m10 15 8 0 (ix ((setI m5 14 8 0 (ix (m5.1 8 12 0 3)) r1).1 8 12 0 3)) r9).1 8 12 0 3))) = (-1) → (vp_in ((setI m10 15 8 0 (ix ((setI m5 14 8 0 (ix (m5.1 8 12 0 3)) r1).1 8 12 0 3)) r9).1 8 12 0 3) 60 ∧ ((((setI m10 15 8 0 (ix ((setI m5 14 8 0 (ix (m5.1 8 12 0 3)) r1).1 8 12 0 3)) r9).1 8 15 0 (ix ((setI m10 15 8 0 (ix ((setI m5 14 8 0 (ix (m5.1 8 12 0 3)) r1).1 8 12 0 3)) r9).1 8 12 0 3))) = (-1) → Q (.inl (some (pI 0))) (setI m10 15 8 0 (ix ((setI m5 14 8 0 (ix (m5.1 8 12 0 3)) r1).1 8 12 0 3)) r9) c n) ∧ (¬ ((setI m10 15 8 0 (ix ((setI m5 14 8 0 (ix (m5.1 8 12 0 3)) r1).1 8 12 0 3)) r9).1 8 15 0 (ix ((setI m10 15 8 0 (ix ((setI m5 14 8 0 (ix (m5.1 8 12 0 3)) r1).1 8 12 0 3)) r9).1 8 12 0 3))) = (-1) → Q (.inl (some (pI 1))) (setI m10 15 8 0 (ix ((setI m5 14 8 0 (ix (m5.1 8 12 0 3)) r1).1 8 12 0 3)) r9) c n)))) ∧ (¬ ((setI m10 15 8 0 (ix ((setI m5 14 8 0 (ix (m5.1 8 12 0 3)) r1).1 8 12 0 3)) r9).1 8 15 0 (ix ((setI m10 15 8 0 (ix ((setI m5 14 8 0 (ix (m5.1 8 12 0 3)) r1).1 8 12 0 3)) r9).1 8 12 0 3))) = (-1) → ((r1 = 4 → ((((setI m10 15 8 0 (ix ((setI m5 14 8 0 (ix (m5.1 8 12 0 3)) r1).1 8 12 0 3)) r9).1 8 12 0 1) ≤ ((setI m10 15 8 0 (ix ((setI m5 14 8 0 (ix (m5.1 8 12 0 3)) r1).1 8 12 0 3)) r9).1 8 12 0 2) → Q (.inl (some (pI 0))) (setI m10 15 8 0 (ix ((setI m5 14 8 0 (ix (m5.1 8 12 0 3)) r1).1 8 12 0 3)) r9) c n) ∧ (¬ ((setI m10 15 8 0 (ix ((setI m5 14 8 0 (ix (m5.1 8 12 0 3)) r1).1 8 12 0 3)) r9).1 8 12 0 1) ≤ ((setI m10 15 8 0 (ix ((setI m5 14 8 0 (ix (m5.1 8 12 0 3)) r1).1 8 12 0 3)) r9).1 8 12 0 2) → (vp_in ((setI m10 15 8 0 (ix ((setI m5 14 8 0 (ix (m5.1 8 12 0 3)) r1).1 8 12 0 3)) r9).1 8 12 0 2) 60 ∧ ((((setI m10 15 8 0 (ix ((setI m5 14 8 0 (ix (m5.1 8 12 0 3)) r1).1 8 12 0 3)) r9).1 8 13 0 (ix ((setI m10 15 8 0 (ix ((setI m5 14 8 0 (ix (m5.1 8 12 0 3)) r1).1 8 12 0 3)) r9).1 8 12 0 2))) = 64 → Wp g (d + 4) MX2_takeNumber 0 [some (pO 12 8 0), some (pI 9)] [] (setI (setI m10 15 8 0 (ix ((setI m5 14 8 0 (ix (m5.1 8 12 0 3)) r1).1 8 12 0 3)) r9) 12 8 0 2 (((setI m10 15 8 0 (ix ((setI m5 14 8 0 (ix (m5.1 8 12 0 3)) r1).1 8 12 0 3)) r9).1 8 12 0 2) + 1)) (cI fun r16 m17 => (vp_in ((setI (setI m10 15 8 0 (ix ((setI m5 14 8 0 (ix (m5.1 8 12 0 3)) r1).1 8 12 0 3)) r9) 12 8 0 2 (((setI m10 15 8 0 (ix ((setI m5 14 8 0 (ix (m5.1 8 12 0 3)) r1).1 8 12 0 3)) r9).1 8 12 0 2) + 1)).1 8 12 0 3) 60 ∧ (vp_in ((setI m17 16 8 0 (ix ((setI (setI m10 15 8 0 (ix ((setI m5 14 8 0 (ix (m5.1 8 12 0 3)) r1).1 8 12 0 3)) r9) 12 8 0 2 (((setI m10 15 8 0 (ix ((setI m5 14 8 0 (ix (m5.1 8 12 0 3)) r1).1 8 12 0 3)) r9).1 8 12 0 2) + 1)).1 8 12 0 3)) r16).1 8 12 0 3) 60 ∧ ((((setI m17 16 8 0 (ix ((setI (setI m10 15 8 0 (ix ((setI m5 14 8 0 (ix (m5.1 8 12 0 3)) r1).1 8 12 0 3)) r9) 12 8 0 2 (((setI m10 15 8 0 (ix ((setI m5 14 8 0 (ix (m5.1 8 12 0 3)) r1).1 8 12 0 3)) r9).1 8 12 0 2) + 1)).1 8 12 0 3)) r16).1 8 16 0 (ix ((setI m17 16 8 0 (ix ((setI (setI m10 15 8 0 (ix ((setI m5 14 8 0 (ix (m5.1 8 12 0 3)) r1).1 8 12 0 3)) r9) 12 8 0 2 (((setI m10 15 8 0 (ix ((setI m5 14 8 0 (ix (m5.1 8 12 0 3)) r1).1 8 12 0 3)) r9).1 8 12 0 2) + 1)).1 8 12 0 3)) r16).1 8 12 0 3))) = (-1) → Q (.inl (some (pI 0))) (setI m17 16 8 0 (ix ((setI (setI m10 15 8 0 (ix ((setI m5 14 8 0 (ix (m5.1 8 12 0 3)) r1).1 8 12 0 3)) r9) 12 8 0 2 (((setI m10 15 8 0 (ix ((setI m5 14 8 0 (ix (m5.1 8 12 0 3)) r1).1 8 12 0 3)) r9).1 8 12 0 2) + 1)).1 8 12 0 3)) r16) c n) ∧ (¬ ((setI m17 16 8 0 (ix ((setI (setI m10 15 8 0 (ix ((setI m5 14 8 0 (ix (m5.1 8 12 0 3)) r1).1 8 12 0 3)) r9) 12 8 0 2 (((setI m10 15 8 0 (ix ((setI m5 14 8 0 (ix (m5.1 8 12 0 3)) r1).1 8 12 0 3)) r9).1 8 12 0 2) + 1)).1 8 12 0 3)) r16).1 8 16 0 (ix ((setI m17 16 8 0 (ix ((setI (setI m10 15 8 0 (ix ((setI m5 14 8 0 (ix (m5.1 8 12 0 3)) r1).1 8 12 0 3)) r9) 12 8 0 2 (((setI m10 15 8 0 (ix ((setI m5 14 8 0 (ix (m5.1 8 12 0 3)) r1).1 8 12 0 3)) r9).1 8 12 0 2) + 1)).1 8 12 0 3)) r16).1 8 12 0 3))) = (-1) → Q (.inl (some (pI 1))) (setI m17 16 8 0 (ix ((setI (setI m10 15 8 0 (ix ((setI m5 14 8 0 (ix (m5.1 8 12 0 3)) r1).1 8 12 0 3)) r9) 12 8 0 2 (((setI m10 15 8 0 (ix ((setI m5 14 8 0 (ix (m5.1 8 12 0 3)) r1).1 8 12 0 3)) r9).1 8 12 0 2) + 1)).1 8 12 0 3)) r16) c n)))))) ∧ (¬ ((setI m10 15 8 0 (ix ((setI m5 14 8 0 (ix (m5.1 8 12 0 3)) r1).1 8 12 0 3)) r9).1 8 13 0 (ix ((setI m10 15 8 0 (ix ((setI m5 14 8 0 (ix (m5.1 8 12 0 3)) r1).1 8 12 0 3)) r9).1 8 12 0 2))) = 64 → Q (.inl (some (pI 0))) (setI m10 15 8 0 (ix ((setI m5 14 8 0 (ix (m5.1 8 12 0 3)) r1).1 8 12 0 3)) r9) c n)))))) ∧ (¬ r1 = 4 → (vp_in ((setI m10 15 8 0 (ix ((setI m5 14 8 0 (ix (m5.1 8 12 0 3)) r1).1 8 12 0 3)) r9).1 8 12 0 3) 60 ∧ ((((setI m10 15 8 0 (ix ((setI m5 14 8 0 (ix (m5.1 8 12 0 3)) r1).1 8 12 0 3)) r9).1 8 15 0 (ix ((setI m10 15 8 0 (ix ((setI m5 14 8 0 (ix (m5.1 8 12 0 3)) r1).1 8 12 0 3)) r9).1 8 12 0 3))) = (-1) → Q (.inl (some (pI 0))) (setI m10 15 8 0 (ix ((setI m5 14 8 0 (ix (m5.1 8 12 0 3)) r1).1 8 12 0 3)) r9) c n) ∧ (¬ ((setI m10 15 8 0 (ix ((setI m5 14 8 0 (ix (m5.1 8 12 0 3)) r1).1 8 12 0 3)) r9).1 8 15 0 (ix ((setI m10 15 8 0 (ix ((setI m5 14 8 0 (ix (m5.1 8 12 0 3)) r1).1 8 12 0 3)) r9).1 8 12 0 3))) = (-1) → Q (.inl (some (pI 1))) (setI m10 15 8 0 (ix ((setI m5 14 8 0 (ix (m5.1 8 12 0 3)) r1).1 8 12 0 3)) r9) c n))))))))))) ∧ (r1 = 4 → Wp g (d + 4) MX2_takeNumber 0 [some (pO 12 8 0), some (pI 3)] [] (setI m5 14 8 0 (ix (m5.1 8 12 0 3)) r1) (cI fun r20 m21 => (vp_in ((setI m5 14 8 0 (ix (m5.1 8 12 0 3)) r1).1 8 12 0 3) 60 ∧ (vp_in ((setI m21 15 8 0 (ix ((setI m5 14 8 0 (ix (m5.1 8 12 0 3)) r1).1 8 12 0 3)) r20).1 8 12 0 3) 60 ∧ ((((setI m21 15 8 0 (ix ((setI m5 14 8 0 (ix (m5.1 8 12 0 3)) r1).1 8 12 0 3)) r20).1 8 15 0 (ix ((setI m21 15 8 0 (ix ((setI m5 14 8 0 (ix (m5.1 8 12 0 3)) r1).1 8 12 0 3)) r20).1 8 12 0 3))) = (-1) → (vp_in ((setI m21 15 8 0 (ix ((setI m5 14 8 0 (ix (m5.1 8 12 0 3)) r1).1 8 12 0 3)) r20).1 8 12 0 3) 60 ∧ ((((setI m21 15 8 0 (ix ((setI m5 14 8 0 (ix (m5.1 8 12 0 3)) r1).1 8 12 0 3)) r20).1 8 15 0 (ix ((setI m21 15 8 0 (ix ((setI m5 14 8 0 (ix (m5.1 8 12 0 3)) r1).1 8 12 0 3)) r20).1 8 12 0 3))) = (-1) → Q (.inl (some (pI 0))) (setI m21 15 8 0 (ix ((setI m5 14 8 0 (ix (m5.1 8 12 0 3)) r1).1 8 12 0 3)) r20) c n) ∧ (¬ ((setI m21 15 8 0 (ix ((setI m5 14 8 0 (ix (m5.1 8 12 0 3)) r1).1 8 12 0 3)) r20).1 8 15 0 (ix ((setI m21 15 8 0 (ix ((setI m5 14 8 0 (ix (m5.1 8 12 0 3)) r1).1 8 12 0 3)) r20).1 8 12 0 3))) = (-1) → Q (.inl (some (pI 1))) (setI m21 15 8 0 (ix ((setI m5 14 8 0 (ix (m5.1 8 12 0 3)) r1).1 8 12 0 3)) r20) c n)))) ∧ (¬ ((setI m21 15 8 0 (ix ((setI m5 14 8 0 (ix (m5.1 8 12 0 3)) r1).1 8 12 0 3)) r20).1 8 15 0 (ix ((setI m21 15 8 0 (ix ((setI m5 14 8 0 (ix (m5.1 8 12 0 3)) r1).1 8 12 0 3)) r20).1 8 12 0 3))) = (-1) → ((r1 = 4 → ((((setI m21 15 8 0 (ix ((setI m5 14 8 0 (ix (m5.1 8 12 0 3)) r1).1 8 12 0 3)) r20).1 8 12 0 1) ≤ ((setI m21 15 8 0 (ix ((setI m5 14 8 0 (ix (m5.1 8 12 0 3)) r1).1 8 12 0 3)) r20).1 8 12 0 2) → Q (.inl (some (pI 0))) (setI m21 15 8 0 (ix ((setI m5 14 8 0 (ix (m5.1 8 12 0 3)) r1).1 8 12 0 3)) r20) c n) ∧ (¬ ((setI m21 15 8 0 (ix ((setI m5 14 8 0 (ix (m5.1 8 12 0 3)) r1).1 8 12 0 3)) r20).1 8 12 0 1) ≤ ((setI m21 15 8 0 (ix ((setI m5 14 8 0 (ix (m5.1 8 12 0 3)) r1).1 8 12 0 3)) r20).1 8 12 0 2) → (vp_in ((setI m21 15 8 0 (ix ((setI m5 14 8 0 (ix (m5.1 8 12 0 3)) r1).1 8 12 0 3)) r20).1 8 12 0 2) 60 ∧ ((((setI m21 15 8 0 (ix ((setI m5 14 8 0 (ix (m5.1 8 12 0 3)) r1).1 8 12 0 3)) r20).1 8 13 0 (ix ((setI m21 15 8 0 (ix ((setI m5 14 8 0 (ix (m5.1 8 12 0 3)) r1).1 8 12 0 3)) r20).1 8 12 0 2))) = 64 → Wp g (d + 4) MX2_takeNumber 0 [some (pO 12 8 0), some (pI 9)] [] (setI (setI m21 15 8 0 (ix ((setI m5 14 8 0 (ix (m5.1 8 12 0 3)) r1).1 8 12 0 3)) r20) 12 8 0 2 (((setI m21 15 8 0 (ix ((setI m5 14 8 0 (ix (m5.1 8 12 0 3)) r1).1 8 12 0 3)) r20).1 8 12 0 2) + 1)) (cI fun r27 m28 => (vp_in ((setI (setI m21 15 8 0 (ix ((setI m5 14 8 0 (ix (m5.1 8 12 0 3)) r1).1 8 12 0 3)) r20) 12 8 0 2 (((setI m21 15 8 0 (ix ((setI m5 14 8 0 (ix (m5.1 8 12 0 3)) r1).1 8 12 0 3)) r20).1 8 12 0 2) + 1)).1 8 12 0 3) 60 ∧ (vp_in ((setI m28 16 8 0 (ix ((setI (setI m21 15 8 0 (ix ((setI m5 14 8 0 (ix (m5.1 8 12 0 3)) r1).1 8 12 0 3)) r20) 12 8 0 2 (((setI m21 15 8 0 (ix ((setI m5 14 8 0 (ix (m5.1 8 12 0 3)) r1).1 8 12 0 3)) r20).1 8 12 0 2) + 1)).1 8 12 0 3)) r27).1 8 12 0 3) 60 ∧ ((((setI m28 16 8 0 (ix ((setI (setI m21 15 8 0 (ix ((setI m5 14 8 0 (ix (m5.1 8 12 0 3)) r1).1 8 12 0 3)) r20) 12 8 0 2 (((setI m21 15 8 0 (ix ((setI m5 14 8 0 (ix (m5.1 8 12 0 3)) r1).1 8 12 0 3)) r20).1 8 12 0 2) + 1)).1 8 12 0 3)) r27).1 8 16 0 (ix ((setI m28 16 8 0 (ix ((setI (setI m21 15 8 0 (ix ((setI m5 14 8 0 (ix (m5.1 8 12 0 3)) r1).1 8 12 0 3)) r20) 12 8 0 2 (((setI m21 15 8 0 (ix ((setI m5 14 8 0 (ix (m5.1 8 12 0 3)) r1).1 8 12 0 3)) r20).1 8 12 0 2) + 1)).1 8 12 0 3)) r27).1 8 12 0 3))) = (-1) → Q (.inl (some (pI 0))) (setI m28 16 8 0 (ix ((setI (setI m21 15 8 0 (ix ((setI m5 14 8 0 (ix (m5.1 8 12 0 3)) r1).1 8 12 0 3)) r20) 12 8 0 2 (((setI m21 15 8 0 (ix ((setI m5 14 8 0 (ix (m5.1 8 12 0 3)) r1).1 8 12 0 3)) r20).1 8 12 0 2) + 1)).1 8 12 0 3)) r27) c n) ∧ (¬ ((setI m28 16 8 0 (ix ((setI (setI m21 15 8 0 (ix ((setI m5 14 8 0 (ix (m5.1 8 12 0 3)) r1).1 8 12 0 3)) r20) 12 8 0 2 (((setI m21 15 8 0 (ix ((setI m5 14 8 0 (ix (m5.1 8 12 0 3)) r1).1 8 12 0 3)) r20).1 8 12 0 2) + 1)).1 8 12 0 3)) r27).1 8 16 0 (ix ((setI m28 16 8 0 (ix ((setI (setI m21 15 8 0 (ix ((setI m5 14 8 0 (ix (m5.1 8 12 0 3)) r1).1 8 12 0 3)) r20) 12 8 0 2 (((setI m21 15 8 0 (ix ((setI m5 14 8 0 (ix (m5.1 8 12 0 3)) r1).1 8 12 0 3)) r20).1 8 12 0 2) + 1)).1 8 12 0 3)) r27).1 8 12 0 3))) = (-1) → Q (.inl (some (pI 1))) (setI m28 16 8 0 (ix ((setI (setI m21 15 8 0 (ix ((setI m5 14 8 0 (ix (m5.1 8 12 0 3)) r1).1 8 12 0 3)) r20) 12 8 0 2 (((setI m21 15 8 0 (ix ((setI m5 14 8 0 (ix (m5.1 8 12 0 3)) r1).1 8 12 0 3)) r20).1 8 12 0 2) + 1)).1 8 12 0 3)) r27) c n)))))) ∧ (¬ ((setI m21 15 8 0 (ix ((setI m5 14 8 0 (ix (m5.1 8 12 0 3)) r1).1 8 12 0 3)) r20).1 8 13 0 (ix ((setI m21 15 8 0 (ix ((setI m5 14 8 0 (ix (m5.1 8 12 0 3)) r1).1 8 12 0 3)) r20).1 8 12 0 2))) = 64 → Q (.inl (some (pI 0))) (setI m21 15 8 0 (ix ((setI m5 14 8 0 (ix (m5.1 8 12 0 3)) r1).1 8 12 0 3)) r20) c n)))))) ∧ (¬ r1 = 4 → (vp_in ((setI m21 15 8 0 (ix ((setI m5 14 8 0 (ix (m5.1 8 12 0 3)) r1).1 8 12 0 3)) r20).1 8 12 0 3) 60 ∧ ((((setI m21 15 8 0 (ix ((setI m5 14 8 0 (ix (m5.1 8 12 0 3)) r1).1 8 12 0 3)) r20).1 8 15 0 (ix ((setI m21 15 8 0 (ix ((setI m5 14 8 0 (ix (m5.1 8 12 0 3)) r1).1 8 12 0 3)) r20).1 8 12 0 3))) = (-1) → Q (.inl (some (pI 0))) (setI m21 15 8 0 (ix ((setI m5 14 8 0 (ix (m5.1 8 12 0 3)) r1).1 8 12 0 3)) r20) c n) ∧ (¬ ((setI m21 15 8 0 (ix ((setI m5 14 8 0 (ix (m5.1 8 12 0 3)) r1).1 8 12 0 3)) r20).1 8 15 0 (ix ((setI m21 15 8 0 (ix ((setI m5 14 8 0 (ix (m5.1 8 12 0 3)) r1).1 8 12 0 3)) r20).1 8 12 0 3))) = (-1) → Q (.inl (some (pI 1))) (setI m21 15 8 0 (ix ((setI m5 14 8 0 (ix (m5.1 8 12 0 3)) r1).1 8 12 0 3)) r20) c n))))))))))))) ∧ (r1 = 5 → Q (.inl (some (pI 1))) (setI m5 14 8 0 (ix (m5.1 8 12 0 3)) r1) c n)))) ∧ (r4 = 0 → Q (.inl (some (pI 0))) m5 c n))))))) : Wq g (d + 5) MX2_readOrder c n 0 [some (pO 12 8 0)] [] m Q := by
  refine Wq.few (ls' := [some (pO 12 8 0), none]) ⟨rfl, trivial⟩ ?_
  refine Wq.aload_n (t := 12) (r := 8) (j := 0) dX2_readOrder_0 rfl ?_
  refine Wq.callVI (As := []) dX2_readOrder_1 fX2_kindAhead ml_X2_42 rfl (by decide) rfl (Nat.le_of_ble_eq_true rfl) (Nat.le_of_ble_eq_true rfl) h (fun r1 m2 h => ?_)
  refine Wq.istore_n (ls2 := [some (pO 12 8 0), some (pI r1)]) dX2_readOrder_4 (by decide) rfl ?_
  refine Wq.iload_n (x := r1) dX2_readOrder_5 rfl ?_
  refine Wq.iconst (v := (-1)) dX2_readOrder_6 (by decide) ?_
  refine Wq.icmpeq (tgt := 21) dX2_readOrder_7 (by decide) (fun q3 => ?_) (fun q3 => ?_)
  · replace h := h.1 q3
    refine Wq.iconst (v := 0) dX2_readOrder_21 (by decide) ?_
    exact Wq.iret dX2_readOrder_22 (⟨_, rfl, by decide⟩) h
  · replace h := h.2 q3
    refine Wq.aload_n (t := 12) (r := 8) (j := 0) dX2_readOrder_10 rfl ?_
    refine Wq.iload_n (x := r1) dX2_readOrder_11 rfl ?_
    refine Wq.callSO (As := [pI r1]) dX2_readOrder_12 fX2_wordOf ml_X2_46 rfl (Nat.le_of_ble_eq_true rfl) (Nat.le_of_ble_eq_true rfl) (suX2_wordOf trivial) (fun t9 r9 j9 m9 e9 => ?_)
    obtain ⟨rfl, rfl, rfl, rfl⟩ := e9
    refine Wq.callVI (As := [pO 44 10 ((if r1 = 0 then 0 else (if r1 = 1 then 1 else (if r1 = 2 then 2 else (if r1 = 3 then 3 else (if r1 = 4 then 4 else 5))))) : Nat)]) dX2_readOrder_15 fX2_takeWord ml_X2_50 rfl (by decide) rfl (Nat.le_of_ble_eq_true rfl) (Nat.le_of_ble_eq_true rfl) h (fun r4 m5 h => ?_)
    refine Wq.ifne (tgt := 23) dX2_readOrder_18 (by decide) (fun q6 => ?_) (fun q6 => ?_)
    · replace h := h.1 q6
      refine Wq.aload_n (t := 12) (r := 8) (j := 0) dX2_readOrder_23 rfl ?_
      refine Wq.getf (v := pO 14 8 0) dX2_readOrder_24 fl_X2_25 ⟨rfl, rfl, by decide⟩ rfl ?_
      refine Wq.aload_n (t := 12) (r := 8) (j := 0) dX2_readOrder_27 rfl ?_
      refine Wq.getf (v := pI (m5.1 8 12 0 3)) dX2_readOrder_28 fl_X2_22 ⟨rfl, rfl, by decide⟩ rfl ?_
      refine Wq.iload_n (x := r1) dX2_readOrder_31 rfl ?_
      refine Wq.iast dX2_readOrder_32 rfl h.1 ?_
      replace h := h.2
      refine Wq.iload_n (x := r1) dX2_readOrder_33 rfl ?_
      refine Wq.iconst (v := 5) dX2_readOrder_34 (by decide) ?_
      refine Wq.icmpne (tgt := 40) dX2_readOrder_35 (by decide) (fun q7 => ?_) (fun q7 => ?_)
      · replace h := h.1 q7
        refine Wq.aload_n (t := 12) (r := 8) (j := 0) dX2_readOrder_40 rfl ?_
        refine Wq.getf (v := pO 15 8 0) dX2_readOrder_41 fl_X2_28 ⟨rfl, rfl, by decide⟩ rfl ?_
        refine Wq.aload_n (t := 12) (r := 8) (j := 0) dX2_readOrder_44 rfl ?_
        refine Wq.getf (v := pI ((setI m5 14 8 0 (ix (m5.1 8 12 0 3)) r1).1 8 12 0 3)) dX2_readOrder_45 fl_X2_22 ⟨rfl, rfl, by decide⟩ rfl ?_
        refine Wq.aload_n (t := 12) (r := 8) (j := 0) dX2_readOrder_48 rfl ?_
        refine Wq.iload_n (x := r1) dX2_readOrder_49 rfl ?_
        refine Wq.iconst (v := 4) dX2_readOrder_50 (by decide) ?_
        refine Wq.icmpne (tgt := 58) dX2_readOrder_51 (by decide) (fun q8 => ?_) (fun q8 => ?_)
        · replace h := h.1 q8
          refine Wq.bipush (v := 11) dX2_readOrder_58 (by decide) ?_
          refine Wq.callVI (As := [pI 11]) dX2_readOrder_60 fX2_takeNumber ml_X2_54 rfl (by decide) rfl (Nat.le_of_ble_eq_true rfl) (Nat.le_of_ble_eq_true rfl) h (fun r9 m10 h => ?_)
          refine Wq.iast dX2_readOrder_63 rfl h.1 ?_
          replace h := h.2
          refine Wq.aload_n (t := 12) (r := 8) (j := 0) dX2_readOrder_64 rfl ?_
          refine Wq.getf (v := pO 15 8 0) dX2_readOrder_65 fl_X2_28 ⟨rfl, rfl, by decide⟩ rfl ?_
          refine Wq.aload_n (t := 12) (r := 8) (j := 0) dX2_readOrder_68 rfl ?_
          refine Wq.getf (v := pI ((setI m10 15 8 0 (ix ((setI m5 14 8 0 (ix (m5.1 8 12 0 3)) r1).1 8 12 0 3)) r9).1 8 12 0 3)) dX2_readOrder_69 fl_X2_22 ⟨rfl, rfl, by decide⟩ rfl ?_
          refine Wq.iald dX2_readOrder_72 rfl h.1 ?_
          replace h := h.2
          refine Wq.iconst (v := (-1)) dX2_readOrder_73 (by decide) ?_
          refine Wq.icmpeq (tgt := 82) dX2_readOrder_74 (by decide) (fun q11 => ?_) (fun q11 => ?_)
          · replace h := h.1 q11
            refine Wq.aload_n (t := 12) (r := 8) (j := 0) dX2_readOrder_82 rfl ?_
            refine Wq.getf (v := pO 15 8 0) dX2_readOrder_83 fl_X2_28 ⟨rfl, rfl, by decide⟩ rfl ?_
            refine Wq.aload_n (t := 12) (r := 8) (j := 0) dX2_readOrder_86 rfl ?_
            refine Wq.getf (v := pI ((setI m10 15 8 0 (ix ((setI m5 14 8 0 (ix (m5.1 8 12 0 3)) r1).1 8 12 0 3)) r9).1 8 12 0 3)) dX2_readOrder_87 fl_X2_22 ⟨rfl, rfl, by decide⟩ rfl ?_
            refine Wq.iald dX2_readOrder_90 rfl h.1 ?_
            replace h := h.2
            refine Wq.iconst (v := (-1)) dX2_readOrder_91 (by decide) ?_
            refine Wq.icmpeq (tgt := 99) dX2_readOrder_92 (by decide) (fun q12 => ?_) (fun q12 => ?_)
            · replace h := h.1 q12
              refine Wq.iconst (v := 0) dX2_readOrder_99 (by decide) ?_
              exact Wq.iret dX2_readOrder_100 (⟨_, rfl, by decide⟩) h
            · replace h := h.2 q12
              refine Wq.iconst (v := 1) dX2_readOrder_95 (by decide) ?_
              refine Wq.goto (tgt := 100) dX2_readOrder_96 (by decide) ?_
              exact Wq.iret dX2_readOrder_100 (⟨_, rfl, by decide⟩) h
          · replace h := h.2 q11
            refine Wq.iload_n (x := r1) dX2_readOrder_77 rfl ?_
            refine Wq.iconst (v := 4) dX2_readOrder_78 (by decide) ?_
            refine Wq.icmpeq (tgt := 101) dX2_readOrder_79 (by decide) (fun q13 => ?_) (fun q13 => ?_)
            · replace h := h.1 q13
              refine Wq.aload_n (t := 12) (r := 8) (j := 0) dX2_readOrder_101 rfl ?_
              refine Wq.bipush (v := 64) dX2_readOrder_102 (by decide) ?_
              refine Wq.callVI (As := [pI 64]) dX2_readOrder_104 fX2_take ml_X2_38 rfl (by decide) rfl (Nat.le_of_ble_eq_true rfl) (Nat.le_of_ble_eq_true rfl) ?_ (fun _ _ h9 => h9)
              refine Wq.few (ls' := [some (pO 12 8 0), some (pI 64)]) ⟨rfl, ⟨rfl, trivial⟩⟩ ?_
              refine Wq.aload_n (t := 12) (r := 8) (j := 0) dX2_take_0 rfl ?_
              refine Wq.getf (v := pI ((setI m10 15 8 0 (ix ((setI m5 14 8 0 (ix (m5.1 8 12 0 3)) r1).1 8 12 0 3)) r9).1 8 12 0 2)) dX2_take_1 fl_X2_19 ⟨rfl, rfl, by decide⟩ rfl ?_
              refine Wq.aload_n (t := 12) (r := 8) (j := 0) dX2_take_4 rfl ?_
              refine Wq.getf (v := pI ((setI m10 15 8 0 (ix ((setI m5 14 8 0 (ix (m5.1 8 12 0 3)) r1).1 8 12 0 3)) r9).1 8 12 0 1)) dX2_take_5 fl_X2_15 ⟨rfl, rfl, by decide⟩ rfl ?_
              refine Wq.icmpge (tgt := 24) dX2_take_8 (by decide) (fun q14 => ?_) (fun q14 => ?_)
              · replace h := h.1 q14
                refine Wq.iconst (v := 0) dX2_take_24 (by decide) ?_
                refine Wq.iretI dX2_take_25 (⟨_, rfl, by decide⟩) ?_
                refine Wq.ifne (tgt := 112) dX2_readOrder_107 (by decide) (fun q9 => absurd q9 (by decide)) (fun _ => ?_)
                refine Wq.iconst (v := 0) dX2_readOrder_110 (by decide) ?_
                exact Wq.iret dX2_readOrder_111 (⟨_, rfl, by decide⟩) h
              · replace h := h.2 q14
                refine Wq.aload_n (t := 12) (r := 8) (j := 0) dX2_take_11 rfl ?_
                refine Wq.getf (v := pO 13 8 0) dX2_take_12 fl_X2_9 ⟨rfl, rfl, by decide⟩ rfl ?_
                refine Wq.aload_n (t := 12) (r := 8) (j := 0) dX2_take_15 rfl ?_
                refine Wq.getf (v := pI ((setI m10 15 8 0 (ix ((setI m5 14 8 0 (ix (m5.1 8 12 0 3)) r1).1 8 12 0 3)) r9).1 8 12 0 2)) dX2_take_16 fl_X2_19 ⟨rfl, rfl, by decide⟩ rfl ?_
                refine Wq.iald dX2_take_19 rfl h.1 ?_
                replace h := h.2
                refine Wq.iload_n (x := 64) dX2_take_20 rfl ?_
                refine Wq.icmpeq (tgt := 26) dX2_take_21 (by decide) (fun q15 => ?_) (fun q15 => ?_)
                · replace h := h.1 q15
                  refine Wq.aload_n (t := 12) (r := 8) (j := 0) dX2_take_26 rfl ?_
                  refine Wq.dup dX2_take_27 rfl ?_
                  refine Wq.getf (v := pI ((setI m10 15 8 0 (ix ((setI m5 14 8 0 (ix (m5.1 8 12 0 3)) r1).1 8 12 0 3)) r9).1 8 12 0 2)) dX2_take_28 fl_X2_19 ⟨rfl, rfl, by decide⟩ rfl ?_
                  refine Wq.iconst (v := 1) dX2_take_31 (by decide) ?_
                  refine Wq.iadd dX2_take_32 ?_
                  refine Wq.putI dX2_take_33 fw_X2_19 ⟨rfl, rfl, by decide⟩ ⟨rfl, by decide, by decide⟩ ⟨rfl, rfl⟩ ?_
                  refine Wq.iconst (v := 1) dX2_take_36 (by decide) ?_
                  refine Wq.iretI dX2_take_37 (⟨_, rfl, by decide⟩) ?_
                  refine Wq.ifne (tgt := 112) dX2_readOrder_107 (by decide) (fun _ => ?_) (fun q9 => absurd q9 (by decide))
                  refine Wq.aload_n (t := 12) (r := 8) (j := 0) dX2_readOrder_112 rfl ?_
                  refine Wq.getf (v := pO 16 8 0) dX2_readOrder_113 fl_X2_31 ⟨rfl, rfl, by decide⟩ rfl ?_
                  refine Wq.aload_n (t := 12) (r := 8) (j := 0) dX2_readOrder_116 rfl ?_
                  refine Wq.getf (v := pI ((setI (setI m10 15 8 0 (ix ((setI m5 14 8 0 (ix (m5.1 8 12 0 3)) r1).1 8 12 0 3)) r9) 12 8 0 2 (((setI m10 15 8 0 (ix ((setI m5 14 8 0 (ix (m5.1 8 12 0 3)) r1).1 8 12 0 3)) r9).1 8 12 0 2) + 1)).1 8 12 0 3)) dX2_readOrder_117 fl_X2_22 ⟨rfl, rfl, by decide⟩ rfl ?_
                  refine Wq.aload_n (t := 12) (r := 8) (j := 0) dX2_readOrder_120 rfl ?_
                  refine Wq.bipush (v := 9) dX2_readOrder_121 (by decide) ?_
                  refine Wq.callVI (As := [pI 9]) dX2_readOrder_123 fX2_takeNumber ml_X2_54 rfl (by decide) rfl (Nat.le_of_ble_eq_true rfl) (Nat.le_of_ble_eq_true rfl) h (fun r16 m17 h => ?_)
                  refine Wq.iast dX2_readOrder_126 rfl h.1 ?_
                  replace h := h.2
                  refine Wq.aload_n (t := 12) (r := 8) (j := 0) dX2_readOrder_127 rfl ?_
                  refine Wq.getf (v := pO 16 8 0) dX2_readOrder_128 fl_X2_31 ⟨rfl, rfl, by decide⟩ rfl ?_
                  refine Wq.aload_n (t := 12) (r := 8) (j := 0) dX2_readOrder_131 rfl ?_
                  refine Wq.getf (v := pI ((setI m17 16 8 0 (ix ((setI (setI m10 15 8 0 (ix ((setI m5 14 8 0 (ix (m5.1 8 12 0 3)) r1).1 8 12 0 3)) r9) 12 8 0 2 (((setI m10 15 8 0 (ix ((setI m5 14 8 0 (ix (m5.1 8 12 0 3)) r1).1 8 12 0 3)) r9).1 8 12 0 2) + 1)).1 8 12 0 3)) r16).1 8 12 0 3)) dX2_readOrder_132 fl_X2_22 ⟨rfl, rfl, by decide⟩ rfl ?_
                  refine Wq.iald dX2_readOrder_135 rfl h.1 ?_
                  replace h := h.2
                  refine Wq.iconst (v := (-1)) dX2_readOrder_136 (by decide) ?_
                  refine Wq.icmpeq (tgt := 144) dX2_readOrder_137 (by decide) (fun q18 => ?_) (fun q18 => ?_)
                  · replace h := h.1 q18
                    refine Wq.iconst (v := 0) dX2_readOrder_144 (by decide) ?_
                    exact Wq.iret dX2_readOrder_145 (⟨_, rfl, by decide⟩) h
                  · replace h := h.2 q18
                    refine Wq.iconst (v := 1) dX2_readOrder_140 (by decide) ?_
                    refine Wq.goto (tgt := 145) dX2_readOrder_141 (by decide) ?_
                    exact Wq.iret dX2_readOrder_145 (⟨_, rfl, by decide⟩) h
                · replace h := h.2 q15
                  refine Wq.iconst (v := 0) dX2_take_24 (by decide) ?_
                  refine Wq.iretI dX2_take_25 (⟨_, rfl, by decide⟩) ?_
                  refine Wq.ifne (tgt := 112) dX2_readOrder_107 (by decide) (fun q9 => absurd q9 (by decide)) (fun _ => ?_)
                  refine Wq.iconst (v := 0) dX2_readOrder_110 (by decide) ?_
                  exact Wq.iret dX2_readOrder_111 (⟨_, rfl, by decide⟩) h
            · replace h := h.2 q13
              refine Wq.aload_n (t := 12) (r := 8) (j := 0) dX2_readOrder_82 rfl ?_
              refine Wq.getf (v := pO 15 8 0) dX2_readOrder_83 fl_X2_28 ⟨rfl, rfl, by decide⟩ rfl ?_
              refine Wq.aload_n (t := 12) (r := 8) (j := 0) dX2_readOrder_86 rfl ?_
              refine Wq.getf (v := pI ((setI m10 15 8 0 (ix ((setI m5 14 8 0 (ix (m5.1 8 12 0 3)) r1).1 8 12 0 3)) r9).1 8 12 0 3)) dX2_readOrder_87 fl_X2_22 ⟨rfl, rfl, by decide⟩ rfl ?_
              refine Wq.iald dX2_readOrder_90 rfl h.1 ?_
              replace h := h.2
              refine Wq.iconst (v := (-1)) dX2_readOrder_91 (by decide) ?_
              refine Wq.icmpeq (tgt := 99) dX2_readOrder_92 (by decide) (fun q19 => ?_) (fun q19 => ?_)
              · replace h := h.1 q19
                refine Wq.iconst (v := 0) dX2_readOrder_99 (by decide) ?_
                exact Wq.iret dX2_readOrder_100 (⟨_, rfl, by decide⟩) h
              · replace h := h.2 q19
                refine Wq.iconst (v := 1) dX2_readOrder_95 (by decide) ?_
                refine Wq.goto (tgt := 100) dX2_readOrder_96 (by decide) ?_
                exact Wq.iret dX2_readOrder_100 (⟨_, rfl, by decide⟩) h
        · replace h := h.2 q8
          refine Wq.iconst (v := 3) dX2_readOrder_54 (by decide) ?_
          refine Wq.goto (tgt := 60) dX2_readOrder_55 (by decide) ?_
          refine Wq.callVI (As := [pI 3]) dX2_readOrder_60 fX2_takeNumber ml_X2_54 rfl (by decide) rfl (Nat.le_of_ble_eq_true rfl) (Nat.le_of_ble_eq_true rfl) h (fun r20 m21 h => ?_)
          refine Wq.iast dX2_readOrder_63 rfl h.1 ?_
          replace h := h.2
          refine Wq.aload_n (t := 12) (r := 8) (j := 0) dX2_readOrder_64 rfl ?_
          refine Wq.getf (v := pO 15 8 0) dX2_readOrder_65 fl_X2_28 ⟨rfl, rfl, by decide⟩ rfl ?_
          refine Wq.aload_n (t := 12) (r := 8) (j := 0) dX2_readOrder_68 rfl ?_
          refine Wq.getf (v := pI ((setI m21 15 8 0 (ix ((setI m5 14 8 0 (ix (m5.1 8 12 0 3)) r1).1 8 12 0 3)) r20).1 8 12 0 3)) dX2_readOrder_69 fl_X2_22 ⟨rfl, rfl, by decide⟩ rfl ?_
          refine Wq.iald dX2_readOrder_72 rfl h.1 ?_
          replace h := h.2
          refine Wq.iconst (v := (-1)) dX2_readOrder_73 (by decide) ?_
          refine Wq.icmpeq (tgt := 82) dX2_readOrder_74 (by decide) (fun q22 => ?_) (fun q22 => ?_)
          · replace h := h.1 q22
            refine Wq.aload_n (t := 12) (r := 8) (j := 0) dX2_readOrder_82 rfl ?_
            refine Wq.getf (v := pO 15 8 0) dX2_readOrder_83 fl_X2_28 ⟨rfl, rfl, by decide⟩ rfl ?_
            refine Wq.aload_n (t := 12) (r := 8) (j := 0) dX2_readOrder_86 rfl ?_
            refine Wq.getf (v := pI ((setI m21 15 8 0 (ix ((setI m5 14 8 0 (ix (m5.1 8 12 0 3)) r1).1 8 12 0 3)) r20).1 8 12 0 3)) dX2_readOrder_87 fl_X2_22 ⟨rfl, rfl, by decide⟩ rfl ?_
            refine Wq.iald dX2_readOrder_90 rfl h.1 ?_
            replace h := h.2
            refine Wq.iconst (v := (-1)) dX2_readOrder_91 (by decide) ?_
            refine Wq.icmpeq (tgt := 99) dX2_readOrder_92 (by decide) (fun q23 => ?_) (fun q23 => ?_)
            · replace h := h.1 q23
              refine Wq.iconst (v := 0) dX2_readOrder_99 (by decide) ?_
              exact Wq.iret dX2_readOrder_100 (⟨_, rfl, by decide⟩) h
            · replace h := h.2 q23
              refine Wq.iconst (v := 1) dX2_readOrder_95 (by decide) ?_
              refine Wq.goto (tgt := 100) dX2_readOrder_96 (by decide) ?_
              exact Wq.iret dX2_readOrder_100 (⟨_, rfl, by decide⟩) h
          · replace h := h.2 q22
            refine Wq.iload_n (x := r1) dX2_readOrder_77 rfl ?_
            refine Wq.iconst (v := 4) dX2_readOrder_78 (by decide) ?_
            refine Wq.icmpeq (tgt := 101) dX2_readOrder_79 (by decide) (fun q24 => ?_) (fun q24 => ?_)
            · replace h := h.1 q24
              refine Wq.aload_n (t := 12) (r := 8) (j := 0) dX2_readOrder_101 rfl ?_
              refine Wq.bipush (v := 64) dX2_readOrder_102 (by decide) ?_
              refine Wq.callVI (As := [pI 64]) dX2_readOrder_104 fX2_take ml_X2_38 rfl (by decide) rfl (Nat.le_of_ble_eq_true rfl) (Nat.le_of_ble_eq_true rfl) ?_ (fun _ _ h9 => h9)
              refine Wq.few (ls' := [some (pO 12 8 0), some (pI 64)]) ⟨rfl, ⟨rfl, trivial⟩⟩ ?_
              refine Wq.aload_n (t := 12) (r := 8) (j := 0) dX2_take_0 rfl ?_
              refine Wq.getf (v := pI ((setI m21 15 8 0 (ix ((setI m5 14 8 0 (ix (m5.1 8 12 0 3)) r1).1 8 12 0 3)) r20).1 8 12 0 2)) dX2_take_1 fl_X2_19 ⟨rfl, rfl, by decide⟩ rfl ?_
              refine Wq.aload_n (t := 12) (r := 8) (j := 0) dX2_take_4 rfl ?_
              refine Wq.getf (v := pI ((setI m21 15 8 0 (ix ((setI m5 14 8 0 (ix (m5.1 8 12 0 3)) r1).1 8 12 0 3)) r20).1 8 12 0 1)) dX2_take_5 fl_X2_15 ⟨rfl, rfl, by decide⟩ rfl ?_
              refine Wq.icmpge (tgt := 24) dX2_take_8 (by decide) (fun q25 => ?_) (fun q25 => ?_)
              · replace h := h.1 q25
                refine Wq.iconst (v := 0) dX2_take_24 (by decide) ?_
                refine Wq.iretI dX2_take_25 (⟨_, rfl, by decide⟩) ?_
                refine Wq.ifne (tgt := 112) dX2_readOrder_107 (by decide) (fun q9 => absurd q9 (by decide)) (fun _ => ?_)
                refine Wq.iconst (v := 0) dX2_readOrder_110 (by decide) ?_
                exact Wq.iret dX2_readOrder_111 (⟨_, rfl, by decide⟩) h
              · replace h := h.2 q25
                refine Wq.aload_n (t := 12) (r := 8) (j := 0) dX2_take_11 rfl ?_
                refine Wq.getf (v := pO 13 8 0) dX2_take_12 fl_X2_9 ⟨rfl, rfl, by decide⟩ rfl ?_
                refine Wq.aload_n (t := 12) (r := 8) (j := 0) dX2_take_15 rfl ?_
                refine Wq.getf (v := pI ((setI m21 15 8 0 (ix ((setI m5 14 8 0 (ix (m5.1 8 12 0 3)) r1).1 8 12 0 3)) r20).1 8 12 0 2)) dX2_take_16 fl_X2_19 ⟨rfl, rfl, by decide⟩ rfl ?_
                refine Wq.iald dX2_take_19 rfl h.1 ?_
                replace h := h.2
                refine Wq.iload_n (x := 64) dX2_take_20 rfl ?_
                refine Wq.icmpeq (tgt := 26) dX2_take_21 (by decide) (fun q26 => ?_) (fun q26 => ?_)
                · replace h := h.1 q26
                  refine Wq.aload_n (t := 12) (r := 8) (j := 0) dX2_take_26 rfl ?_
                  refine Wq.dup dX2_take_27 rfl ?_
                  refine Wq.getf (v := pI ((setI m21 15 8 0 (ix ((setI m5 14 8 0 (ix (m5.1 8 12 0 3)) r1).1 8 12 0 3)) r20).1 8 12 0 2)) dX2_take_28 fl_X2_19 ⟨rfl, rfl, by decide⟩ rfl ?_
                  refine Wq.iconst (v := 1) dX2_take_31 (by decide) ?_
                  refine Wq.iadd dX2_take_32 ?_
                  refine Wq.putI dX2_take_33 fw_X2_19 ⟨rfl, rfl, by decide⟩ ⟨rfl, by decide, by decide⟩ ⟨rfl, rfl⟩ ?_
                  refine Wq.iconst (v := 1) dX2_take_36 (by decide) ?_
                  refine Wq.iretI dX2_take_37 (⟨_, rfl, by decide⟩) ?_
                  refine Wq.ifne (tgt := 112) dX2_readOrder_107 (by decide) (fun _ => ?_) (fun q9 => absurd q9 (by decide))
                  refine Wq.aload_n (t := 12) (r := 8) (j := 0) dX2_readOrder_112 rfl ?_
                  refine Wq.getf (v := pO 16 8 0) dX2_readOrder_113 fl_X2_31 ⟨rfl, rfl, by decide⟩ rfl ?_
                  refine Wq.aload_n (t := 12) (r := 8) (j := 0) dX2_readOrder_116 rfl ?_
                  refine Wq.getf (v := pI ((setI (setI m21 15 8 0 (ix ((setI m5 14 8 0 (ix (m5.1 8 12 0 3)) r1).1 8 12 0 3)) r20) 12 8 0 2 (((setI m21 15 8 0 (ix ((setI m5 14 8 0 (ix (m5.1 8 12 0 3)) r1).1 8 12 0 3)) r20).1 8 12 0 2) + 1)).1 8 12 0 3)) dX2_readOrder_117 fl_X2_22 ⟨rfl, rfl, by decide⟩ rfl ?_
                  refine Wq.aload_n (t := 12) (r := 8) (j := 0) dX2_readOrder_120 rfl ?_
                  refine Wq.bipush (v := 9) dX2_readOrder_121 (by decide) ?_
                  refine Wq.callVI (As := [pI 9]) dX2_readOrder_123 fX2_takeNumber ml_X2_54 rfl (by decide) rfl (Nat.le_of_ble_eq_true rfl) (Nat.le_of_ble_eq_true rfl) h (fun r27 m28 h => ?_)
                  refine Wq.iast dX2_readOrder_126 rfl h.1 ?_
                  replace h := h.2
                  refine Wq.aload_n (t := 12) (r := 8) (j := 0) dX2_readOrder_127 rfl ?_
                  refine Wq.getf (v := pO 16 8 0) dX2_readOrder_128 fl_X2_31 ⟨rfl, rfl, by decide⟩ rfl ?_
                  refine Wq.aload_n (t := 12) (r := 8) (j := 0) dX2_readOrder_131 rfl ?_
                  refine Wq.getf (v := pI ((setI m28 16 8 0 (ix ((setI (setI m21 15 8 0 (ix ((setI m5 14 8 0 (ix (m5.1 8 12 0 3)) r1).1 8 12 0 3)) r20) 12 8 0 2 (((setI m21 15 8 0 (ix ((setI m5 14 8 0 (ix (m5.1 8 12 0 3)) r1).1 8 12 0 3)) r20).1 8 12 0 2) + 1)).1 8 12 0 3)) r27).1 8 12 0 3)) dX2_readOrder_132 fl_X2_22 ⟨rfl, rfl, by decide⟩ rfl ?_
                  refine Wq.iald dX2_readOrder_135 rfl h.1 ?_
                  replace h := h.2
                  refine Wq.iconst (v := (-1)) dX2_readOrder_136 (by decide) ?_
                  refine Wq.icmpeq (tgt := 144) dX2_readOrder_137 (by decide) (fun q29 => ?_) (fun q29 => ?_)
                  · replace h := h.1 q29
                    refine Wq.iconst (v := 0) dX2_readOrder_144 (by decide) ?_
                    exact Wq.iret dX2_readOrder_145 (⟨_, rfl, by decide⟩) h
                  · replace h := h.2 q29
                    refine Wq.iconst (v := 1) dX2_readOrder_140 (by decide) ?_
                    refine Wq.goto (tgt := 145) dX2_readOrder_141 (by decide) ?_
                    exact Wq.iret dX2_readOrder_145 (⟨_, rfl, by decide⟩) h
                · replace h := h.2 q26
                  refine Wq.iconst (v := 0) dX2_take_24 (by decide) ?_
                  refine Wq.iretI dX2_take_25 (⟨_, rfl, by decide⟩) ?_
                  refine Wq.ifne (tgt := 112) dX2_readOrder_107 (by decide) (fun q9 => absurd q9 (by decide)) (fun _ => ?_)
                  refine Wq.iconst (v := 0) dX2_readOrder_110 (by decide) ?_
                  exact Wq.iret dX2_readOrder_111 (⟨_, rfl, by decide⟩) h
            · replace h := h.2 q24
              refine Wq.aload_n (t := 12) (r := 8) (j := 0) dX2_readOrder_82 rfl ?_
              refine Wq.getf (v := pO 15 8 0) dX2_readOrder_83 fl_X2_28 ⟨rfl, rfl, by decide⟩ rfl ?_
              refine Wq.aload_n (t := 12) (r := 8) (j := 0) dX2_readOrder_86 rfl ?_
              refine Wq.getf (v := pI ((setI m21 15 8 0 (ix ((setI m5 14 8 0 (ix (m5.1 8 12 0 3)) r1).1 8 12 0 3)) r20).1 8 12 0 3)) dX2_readOrder_87 fl_X2_22 ⟨rfl, rfl, by decide⟩ rfl ?_
              refine Wq.iald dX2_readOrder_90 rfl h.1 ?_
              replace h := h.2
              refine Wq.iconst (v := (-1)) dX2_readOrder_91 (by decide) ?_
              refine Wq.icmpeq (tgt := 99) dX2_readOrder_92 (by decide) (fun q30 => ?_) (fun q30 => ?_)
              · replace h := h.1 q30
                refine Wq.iconst (v := 0) dX2_readOrder_99 (by decide) ?_
                exact Wq.iret dX2_readOrder_100 (⟨_, rfl, by decide⟩) h
              · replace h := h.2 q30
                refine Wq.iconst (v := 1) dX2_readOrder_95 (by decide) ?_
                refine Wq.goto (tgt := 100) dX2_readOrder_96 (by decide) ?_
                exact Wq.iret dX2_readOrder_100 (⟨_, rfl, by decide⟩) h
      · replace h := h.2 q7
        refine Wq.iconst (v := 1) dX2_readOrder_38 (by decide) ?_
        exact Wq.iret dX2_readOrder_39 (⟨_, rfl, by decide⟩) h
    · replace h := h.2 q6
      refine Wq.iconst (v := 0) dX2_readOrder_21 (by decide) ?_
      exact Wq.iret dX2_readOrder_22 (⟨_, rfl, by decide⟩) h
set_option maxHeartbeats 4000000 in
set_option maxRecDepth 20000 in
theorem sgX2_read {g : GG} {d : Nat} {c n : Nat} {m : PM} {Q : Ou → PM → Nat → Nat → Prop}  (h : Wq g (d + 6) MX2_read c n 10 [some (pO 12 8 0)] [] (setI (setI m 12 8 0 2 0) 12 8 0 3 0) Q) : Wq g (d + 6) MX2_read c n 0 [some (pO 12 8 0)] [] m Q := by
  refine Wq.few (ls' := [some (pO 12 8 0)]) ⟨rfl, trivial⟩ ?_
  refine Wq.aload_n (t := 12) (r := 8) (j := 0) dX2_read_0 rfl ?_
  refine Wq.iconst (v := 0) dX2_read_1 (by decide) ?_
  refine Wq.putI dX2_read_2 fw_X2_19 ⟨rfl, rfl, by decide⟩ ⟨rfl, by decide, by decide⟩ ⟨rfl, rfl⟩ ?_
  refine Wq.aload_n (t := 12) (r := 8) (j := 0) dX2_read_5 rfl ?_
  refine Wq.iconst (v := 0) dX2_read_6 (by decide) ?_
  refine Wq.putI dX2_read_7 fw_X2_22 ⟨rfl, rfl, by decide⟩ ⟨rfl, by decide, by decide⟩ ⟨rfl, rfl⟩ ?_
  exact h
set_option maxHeartbeats 4000000 in
set_option maxRecDepth 20000 in
theorem sgX2_read_10 {g : GG} {d : Nat} {c n : Nat} {m : PM} {Q : Ou → PM → Nat → Nat → Prop}  (h : ((60 ≤ (m.1 8 12 0 3) → Q (.inl (some (pI 0))) m c n) ∧ (¬ 60 ≤ (m.1 8 12 0 3) → Wp g (d + 5) MX2_readOrder 0 [some (pO 12 8 0)] [] m (cI fun r2 m3 => ((¬ r2 = 0 → ((((setI m3 12 8 0 3 ((m3.1 8 12 0 3) + 1)).1 8 12 0 2) < ((setI m3 12 8 0 3 ((m3.1 8 12 0 3) + 1)).1 8 12 0 1) → ((((setI m3 12 8 0 3 ((m3.1 8 12 0 3) + 1)).1 8 12 0 1) ≤ ((setI m3 12 8 0 3 ((m3.1 8 12 0 3) + 1)).1 8 12 0 2) → Q (.inl (some (pI 0))) (setI m3 12 8 0 3 ((m3.1 8 12 0 3) + 1)) c n) ∧ (¬ ((setI m3 12 8 0 3 ((m3.1 8 12 0 3) + 1)).1 8 12 0 1) ≤ ((setI m3 12 8 0 3 ((m3.1 8 12 0 3) + 1)).1 8 12 0 2) → (vp_in ((setI m3 12 8 0 3 ((m3.1 8 12 0 3) + 1)).1 8 12 0 2) 60 ∧ ((((setI m3 12 8 0 3 ((m3.1 8 12 0 3) + 1)).1 8 13 0 (ix ((setI m3 12 8 0 3 ((m3.1 8 12 0 3) + 1)).1 8 12 0 2))) = 59 → Wq g (d + 6) MX2_read c n 10 [some (pO 12 8 0)] [] (setI (setI m3 12 8 0 3 ((m3.1 8 12 0 3) + 1)) 12 8 0 2 (((setI m3 12 8 0 3 ((m3.1 8 12 0 3) + 1)).1 8 12 0 2) + 1)) Q) ∧ (¬ ((setI m3 12 8 0 3 ((m3.1 8 12 0 3) + 1)).1 8 13 0 (ix ((setI m3 12 8 0 3 ((m3.1 8 12 0 3) + 1)).1 8 12 0 2))) = 59 → Q (.inl (some (pI 0))) (setI m3 12 8 0 3 ((m3.1 8 12 0 3) + 1)) c n)))))) ∧ (¬ ((setI m3 12 8 0 3 ((m3.1 8 12 0 3) + 1)).1 8 12 0 2) < ((setI m3 12 8 0 3 ((m3.1 8 12 0 3) + 1)).1 8 12 0 1) → Q (.inl (some (pI 1))) (setI m3 12 8 0 3 ((m3.1 8 12 0 3) + 1)) c n))) ∧ (r2 = 0 → Q (.inl (some (pI 0))) m3 c n)))))) : Wq g (d + 6) MX2_read c n 10 [some (pO 12 8 0)] [] m Q := by
  refine Wq.aload_n (t := 12) (r := 8) (j := 0) dX2_read_10 rfl ?_
  refine Wq.getf (v := pI (m.1 8 12 0 3)) dX2_read_11 fl_X2_22 ⟨rfl, rfl, by decide⟩ rfl ?_
  refine Wq.aload_n (t := 12) (r := 8) (j := 0) dX2_read_14 rfl ?_
  refine Wq.getf (v := pO 14 8 0) dX2_read_15 fl_X2_25 ⟨rfl, rfl, by decide⟩ rfl ?_
  refine Wq.alen (v := 60) dX2_read_18 rfl (by decide) rfl ?_
  refine Wq.icmpge (tgt := 65) dX2_read_19 (by decide) (fun q1 => ?_) (fun q1 => ?_)
  · replace h := h.1 q1
    refine Wq.iconst (v := 0) dX2_read_65 (by decide) ?_
    exact Wq.iret dX2_read_66 (⟨_, rfl, by decide⟩) h
  · replace h := h.2 q1
    refine Wq.aload_n (t := 12) (r := 8) (j := 0) dX2_read_22 rfl ?_
    refine Wq.callVI (As := []) dX2_read_23 fX2_readOrder ml_X2_34 rfl (by decide) rfl (Nat.le_of_ble_eq_true rfl) (Nat.le_of_ble_eq_true rfl) h (fun r2 m3 h => ?_)
    refine Wq.ifne (tgt := 31) dX2_read_26 (by decide) (fun q4 => ?_) (fun q4 => ?_)
    · replace h := h.1 q4
      refine Wq.aload_n (t := 12) (r := 8) (j := 0) dX2_read_31 rfl ?_
      refine Wq.dup dX2_read_32 rfl ?_
      refine Wq.getf (v := pI (m3.1 8 12 0 3)) dX2_read_33 fl_X2_22 ⟨rfl, rfl, by decide⟩ rfl ?_
      refine Wq.iconst (v := 1) dX2_read_36 (by decide) ?_
      refine Wq.iadd dX2_read_37 ?_
      refine Wq.putI dX2_read_38 fw_X2_22 ⟨rfl, rfl, by decide⟩ ⟨rfl, by decide, by decide⟩ ⟨rfl, rfl⟩ ?_
      refine Wq.aload_n (t := 12) (r := 8) (j := 0) dX2_read_41 rfl ?_
      refine Wq.getf (v := pI ((setI m3 12 8 0 3 ((m3.1 8 12 0 3) + 1)).1 8 12 0 2)) dX2_read_42 fl_X2_19 ⟨rfl, rfl, by decide⟩ rfl ?_
      refine Wq.aload_n (t := 12) (r := 8) (j := 0) dX2_read_45 rfl ?_
      refine Wq.getf (v := pI ((setI m3 12 8 0 3 ((m3.1 8 12 0 3) + 1)).1 8 12 0 1)) dX2_read_46 fl_X2_15 ⟨rfl, rfl, by decide⟩ rfl ?_
      refine Wq.icmplt (tgt := 54) dX2_read_49 (by decide) (fun q5 => ?_) (fun q5 => ?_)
      · replace h := h.1 q5
        refine Wq.aload_n (t := 12) (r := 8) (j := 0) dX2_read_54 rfl ?_
        refine Wq.bipush (v := 59) dX2_read_55 (by decide) ?_
        refine Wq.callVI (As := [pI 59]) dX2_read_57 fX2_take ml_X2_38 rfl (by decide) rfl (Nat.le_of_ble_eq_true rfl) (Nat.le_of_ble_eq_true rfl) ?_ (fun _ _ h9 => h9)
        refine Wq.few (ls' := [some (pO 12 8 0), some (pI 59)]) ⟨rfl, ⟨rfl, trivial⟩⟩ ?_
        refine Wq.aload_n (t := 12) (r := 8) (j := 0) dX2_take_0 rfl ?_
        refine Wq.getf (v := pI ((setI m3 12 8 0 3 ((m3.1 8 12 0 3) + 1)).1 8 12 0 2)) dX2_take_1 fl_X2_19 ⟨rfl, rfl, by decide⟩ rfl ?_
        refine Wq.aload_n (t := 12) (r := 8) (j := 0) dX2_take_4 rfl ?_
        refine Wq.getf (v := pI ((setI m3 12 8 0 3 ((m3.1 8 12 0 3) + 1)).1 8 12 0 1)) dX2_take_5 fl_X2_15 ⟨rfl, rfl, by decide⟩ rfl ?_
        refine Wq.icmpge (tgt := 24) dX2_take_8 (by decide) (fun q6 => ?_) (fun q6 => ?_)
        · replace h := h.1 q6
          refine Wq.iconst (v := 0) dX2_take_24 (by decide) ?_
          refine Wq.iretI dX2_take_25 (⟨_, rfl, by decide⟩) ?_
          refine Wq.ifne (tgt := 10) dX2_read_60 (by decide) (fun q9 => absurd q9 (by decide)) (fun _ => ?_)
          refine Wq.iconst (v := 0) dX2_read_63 (by decide) ?_
          exact Wq.iret dX2_read_64 (⟨_, rfl, by decide⟩) h
        · replace h := h.2 q6
          refine Wq.aload_n (t := 12) (r := 8) (j := 0) dX2_take_11 rfl ?_
          refine Wq.getf (v := pO 13 8 0) dX2_take_12 fl_X2_9 ⟨rfl, rfl, by decide⟩ rfl ?_
          refine Wq.aload_n (t := 12) (r := 8) (j := 0) dX2_take_15 rfl ?_
          refine Wq.getf (v := pI ((setI m3 12 8 0 3 ((m3.1 8 12 0 3) + 1)).1 8 12 0 2)) dX2_take_16 fl_X2_19 ⟨rfl, rfl, by decide⟩ rfl ?_
          refine Wq.iald dX2_take_19 rfl h.1 ?_
          replace h := h.2
          refine Wq.iload_n (x := 59) dX2_take_20 rfl ?_
          refine Wq.icmpeq (tgt := 26) dX2_take_21 (by decide) (fun q7 => ?_) (fun q7 => ?_)
          · replace h := h.1 q7
            refine Wq.aload_n (t := 12) (r := 8) (j := 0) dX2_take_26 rfl ?_
            refine Wq.dup dX2_take_27 rfl ?_
            refine Wq.getf (v := pI ((setI m3 12 8 0 3 ((m3.1 8 12 0 3) + 1)).1 8 12 0 2)) dX2_take_28 fl_X2_19 ⟨rfl, rfl, by decide⟩ rfl ?_
            refine Wq.iconst (v := 1) dX2_take_31 (by decide) ?_
            refine Wq.iadd dX2_take_32 ?_
            refine Wq.putI dX2_take_33 fw_X2_19 ⟨rfl, rfl, by decide⟩ ⟨rfl, by decide, by decide⟩ ⟨rfl, rfl⟩ ?_
            refine Wq.iconst (v := 1) dX2_take_36 (by decide) ?_
            refine Wq.iretI dX2_take_37 (⟨_, rfl, by decide⟩) ?_
            refine Wq.ifne (tgt := 10) dX2_read_60 (by decide) (fun _ => ?_) (fun q9 => absurd q9 (by decide))
            exact h
          · replace h := h.2 q7
            refine Wq.iconst (v := 0) dX2_take_24 (by decide) ?_
            refine Wq.iretI dX2_take_25 (⟨_, rfl, by decide⟩) ?_
            refine Wq.ifne (tgt := 10) dX2_read_60 (by decide) (fun q9 => absurd q9 (by decide)) (fun _ => ?_)
            refine Wq.iconst (v := 0) dX2_read_63 (by decide) ?_
            exact Wq.iret dX2_read_64 (⟨_, rfl, by decide⟩) h
      · replace h := h.2 q5
        refine Wq.iconst (v := 1) dX2_read_52 (by decide) ?_
        exact Wq.iret dX2_read_53 (⟨_, rfl, by decide⟩) h
    · replace h := h.2 q4
      refine Wq.iconst (v := 0) dX2_read_29 (by decide) ?_
      exact Wq.iret dX2_read_30 (⟨_, rfl, by decide⟩) h
