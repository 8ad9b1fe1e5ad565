/-! SEGMENTS: rows from a method's entry, and from each loop's head, to the next ones (laid by wip/p27/gen/gen.py) -/
set_option maxHeartbeats 4000000 in
set_option maxRecDepth 20000 in
theorem sgX4_dropOldestSave {g : GG} {d : Nat} {c n : Nat} {m : PM} {Q : Ou → PM → Nat → Nat → Prop}  (h : ((ix (m.1 8 11 0 (ix 0))) < 8 ∧ Wq g d MX4_dropOldestSave c n 9 [some (pO 10 8 0), some (pO 0 (ix (m.1 8 11 0 (ix 0))) 0), some (pI 1)] [] m Q)) : Wq g d MX4_dropOldestSave c n 0 [some (pO 10 8 0)] [] m Q := by
  refine Wq.few (ls' := [some (pO 10 8 0), none, none]) ⟨rfl, trivial⟩ ?_
  refine Wq.aload_n (t := 10) (r := 8) (j := 0) dX4_dropOldestSave_0 rfl ?_
  refine Wq.getf (v := pO 11 8 0) dX4_dropOldestSave_1 fl_X4_19 ⟨rfl, rfl, by decide⟩ rfl ?_
  refine Wq.iconst (v := 0) dX4_dropOldestSave_4 (by decide) ?_
  refine Wq.aaldS dX4_dropOldestSave_5 (vp_dec rfl) h.1 ?_
  replace h := h.2
  refine Wq.astore_n (ls2 := [some (pO 10 8 0), some (pO 0 (ix (m.1 8 11 0 (ix 0))) 0), none]) dX4_dropOldestSave_6 (by decide) rfl ?_
  refine Wq.iconst (v := 1) dX4_dropOldestSave_7 (by decide) ?_
  refine Wq.istore_n (ls2 := [some (pO 10 8 0), some (pO 0 (ix (m.1 8 11 0 (ix 0))) 0), some (pI 1)]) dX4_dropOldestSave_8 (by decide) rfl ?_
  exact h
set_option maxHeartbeats 4000000 in
set_option maxRecDepth 20000 in
theorem sgX4_dropOldestSave_9 {g : GG} {d : Nat} {c n : Nat} {m : PM} {Q : Ou → PM → Nat → Nat → Prop} {r1 : Nat} {x2 : Int32} (h : ((6 ≤ x2 → (vp_in (6 - 1) 6 ∧ Q (.inl none) (setI (setI m 11 8 0 (ix (6 - 1)) (nI r1)) 10 8 0 3 (6 - 1)) c n)) ∧ (¬ 6 ≤ x2 → (vp_in x2 6 ∧ ((ix (m.1 8 11 0 (ix x2))) < 8 ∧ (vp_in (x2 - 1) 6 ∧ Wq g d MX4_dropOldestSave c n 9 [some (pO 10 8 0), some (pO 0 r1 0), some (pI (x2 + 1))] [] (setI m 11 8 0 (ix (x2 - 1)) (nI (ix (m.1 8 11 0 (ix x2))))) Q)))))) : Wq g d MX4_dropOldestSave c n 9 [some (pO 10 8 0), some (pO 0 r1 0), some (pI x2)] [] m Q := by
  refine Wq.iload_n (x := x2) dX4_dropOldestSave_9 rfl ?_
  refine Wq.aload_n (t := 10) (r := 8) (j := 0) dX4_dropOldestSave_10 rfl ?_
  refine Wq.getf (v := pO 11 8 0) dX4_dropOldestSave_11 fl_X4_19 ⟨rfl, rfl, by decide⟩ rfl ?_
  refine Wq.alen (v := 6) dX4_dropOldestSave_14 rfl (by decide) rfl ?_
  refine Wq.icmpge (tgt := 38) dX4_dropOldestSave_15 (by decide) (fun q1 => ?_) (fun q1 => ?_)
  · replace h := h.1 q1
    refine Wq.aload_n (t := 10) (r := 8) (j := 0) dX4_dropOldestSave_38 rfl ?_
    refine Wq.getf (v := pO 11 8 0) dX4_dropOldestSave_39 fl_X4_19 ⟨rfl, rfl, by decide⟩ rfl ?_
    refine Wq.aload_n (t := 10) (r := 8) (j := 0) dX4_dropOldestSave_42 rfl ?_
    refine Wq.getf (v := pO 11 8 0) dX4_dropOldestSave_43 fl_X4_19 ⟨rfl, rfl, by decide⟩ rfl ?_
    refine Wq.alen (v := 6) dX4_dropOldestSave_46 rfl (by decide) rfl ?_
    refine Wq.iconst (v := 1) dX4_dropOldestSave_47 (by decide) ?_
    refine Wq.isub dX4_dropOldestSave_48 ?_
    refine Wq.aload_n (t := 0) (r := r1) (j := 0) dX4_dropOldestSave_49 rfl ?_
    refine Wq.aast dX4_dropOldestSave_50 h.1 ?_
    replace h := h.2
    refine Wq.aload_n (t := 10) (r := 8) (j := 0) dX4_dropOldestSave_51 rfl ?_
    refine Wq.aload_n (t := 10) (r := 8) (j := 0) dX4_dropOldestSave_52 rfl ?_
    refine Wq.getf (v := pO 11 8 0) dX4_dropOldestSave_53 fl_X4_19 ⟨rfl, rfl, by decide⟩ rfl ?_
    refine Wq.alen (v := 6) dX4_dropOldestSave_56 rfl (by decide) rfl ?_
    refine Wq.iconst (v := 1) dX4_dropOldestSave_57 (by decide) ?_
    refine Wq.isub dX4_dropOldestSave_58 ?_
    refine Wq.putI dX4_dropOldestSave_59 fw_X4_23 ⟨rfl, rfl, by decide⟩ ⟨rfl, by decide, by decide⟩ ⟨rfl, rfl⟩ ?_
    exact Wq.vret dX4_dropOldestSave_62 rfl h
  · replace h := h.2 q1
    refine Wq.aload_n (t := 10) (r := 8) (j := 0) dX4_dropOldestSave_18 rfl ?_
    refine Wq.getf (v := pO 11 8 0) dX4_dropOldestSave_19 fl_X4_19 ⟨rfl, rfl, by decide⟩ rfl ?_
    refine Wq.iload_n (x := x2) dX4_dropOldestSave_22 rfl ?_
    refine Wq.iconst (v := 1) dX4_dropOldestSave_23 (by decide) ?_
    refine Wq.isub dX4_dropOldestSave_24 ?_
    refine Wq.aload_n (t := 10) (r := 8) (j := 0) dX4_dropOldestSave_25 rfl ?_
    refine Wq.getf (v := pO 11 8 0) dX4_dropOldestSave_26 fl_X4_19 ⟨rfl, rfl, by decide⟩ rfl ?_
    refine Wq.iload_n (x := x2) dX4_dropOldestSave_29 rfl ?_
    refine Wq.aaldS dX4_dropOldestSave_30 h.1 h.2.1 ?_
    replace h := h.2.2
    refine Wq.aast dX4_dropOldestSave_31 h.1 ?_
    replace h := h.2
    refine Wq.iinc (x := x2) (ls2 := [some (pO 10 8 0), some (pO 0 r1 0), some (pI (x2 + 1))]) dX4_dropOldestSave_32 rfl (by decide) rfl ?_
    refine Wq.goto (tgt := 9) dX4_dropOldestSave_35 (by decide) ?_
    exact h
set_option maxHeartbeats 4000000 in
set_option maxRecDepth 20000 in
theorem sgX4_save {g : GG} {d : Nat} {c n : Nat} {m : PM} {Q : Ou → PM → Nat → Nat → Prop}  (h : (((m.1 8 10 0 3) < 6 → (vp_in (m.1 8 10 0 3) 6 ∧ ((ix (m.1 8 11 0 (ix (m.1 8 10 0 3)))) < 8 ∧ Wp g (d + 2) MX1_copyFrom 0 [some (pO 0 (ix (m.1 8 11 0 (ix (m.1 8 10 0 3)))) 0), some (pO 0 0 0)] [] m (cV fun m3 => Q (.inl none) (setI m3 10 8 0 3 ((m3.1 8 10 0 3) + 1)) c n)))) ∧ (¬ (m.1 8 10 0 3) < 6 → Wp g (d + 2) MX4_dropOldestSave 0 [some (pO 10 8 0)] [] m (cV fun m5 => (vp_in (m5.1 8 10 0 3) 6 ∧ ((ix (m5.1 8 11 0 (ix (m5.1 8 10 0 3)))) < 8 ∧ Wp g (d + 2) MX1_copyFrom 0 [some (pO 0 (ix (m5.1 8 11 0 (ix (m5.1 8 10 0 3)))) 0), some (pO 0 0 0)] [] m5 (cV fun m7 => Q (.inl none) (setI m7 10 8 0 3 ((m7.1 8 10 0 3) + 1)) c n))))))) : Wq g (d + 3) MX4_save c n 0 [some (pO 10 8 0)] [] m Q := by
  refine Wq.few (ls' := [some (pO 10 8 0)]) ⟨rfl, trivial⟩ ?_
  refine Wq.aload_n (t := 10) (r := 8) (j := 0) dX4_save_0 rfl ?_
  refine Wq.getf (v := pI (m.1 8 10 0 3)) dX4_save_1 fl_X4_23 ⟨rfl, rfl, by decide⟩ rfl ?_
  refine Wq.aload_n (t := 10) (r := 8) (j := 0) dX4_save_4 rfl ?_
  refine Wq.getf (v := pO 11 8 0) dX4_save_5 fl_X4_19 ⟨rfl, rfl, by decide⟩ rfl ?_
  refine Wq.alen (v := 6) dX4_save_8 rfl (by decide) rfl ?_
  refine Wq.icmplt (tgt := 16) dX4_save_9 (by decide) (fun q1 => ?_) (fun q1 => ?_)
  · replace h := h.1 q1
    refine Wq.aload_n (t := 10) (r := 8) (j := 0) dX4_save_16 rfl ?_
    refine Wq.getf (v := pO 11 8 0) dX4_save_17 fl_X4_19 ⟨rfl, rfl, by decide⟩ rfl ?_
    refine Wq.aload_n (t := 10) (r := 8) (j := 0) dX4_save_20 rfl ?_
    refine Wq.getf (v := pI (m.1 8 10 0 3)) dX4_save_21 fl_X4_23 ⟨rfl, rfl, by decide⟩ rfl ?_
    refine Wq.aaldS dX4_save_24 h.1 h.2.1 ?_
    replace h := h.2.2
    refine Wq.aload_n (t := 10) (r := 8) (j := 0) dX4_save_25 rfl ?_
    refine Wq.getf (v := pO 0 0 0) dX4_save_26 fl_X4_12 ⟨rfl, rfl, by decide⟩ rfl ?_
    refine Wq.callVV (As := [pO 0 0 0]) dX4_save_29 fX1_copyFrom ml_X4_165 rfl (by decide) rfl (Nat.le_of_ble_eq_true rfl) (Nat.le_of_ble_eq_true rfl) h (fun m3 h => ?_)
    refine Wq.aload_n (t := 10) (r := 8) (j := 0) dX4_save_32 rfl ?_
    refine Wq.dup dX4_save_33 rfl ?_
    refine Wq.getf (v := pI (m3.1 8 10 0 3)) dX4_save_34 fl_X4_23 ⟨rfl, rfl, by decide⟩ rfl ?_
    refine Wq.iconst (v := 1) dX4_save_37 (by decide) ?_
    refine Wq.iadd dX4_save_38 ?_
    refine Wq.putI dX4_save_39 fw_X4_23 ⟨rfl, rfl, by decide⟩ ⟨rfl, by decide, by decide⟩ ⟨rfl, rfl⟩ ?_
    exact Wq.vret dX4_save_42 rfl h
  · replace h := h.2 q1
    refine Wq.aload_n (t := 10) (r := 8) (j := 0) dX4_save_12 rfl ?_
    refine Wq.callVV (As := []) dX4_save_13 fX4_dropOldestSave ml_X4_259 rfl (by decide) rfl (Nat.le_of_ble_eq_true rfl) (Nat.le_of_ble_eq_true rfl) h (fun m5 h => ?_)
    refine Wq.aload_n (t := 10) (r := 8) (j := 0) dX4_save_16 rfl ?_
    refine Wq.getf (v := pO 11 8 0) dX4_save_17 fl_X4_19 ⟨rfl, rfl, by decide⟩ rfl ?_
    refine Wq.aload_n (t := 10) (r := 8) (j := 0) dX4_save_20 rfl ?_
    refine Wq.getf (v := pI (m5.1 8 10 0 3)) dX4_save_21 fl_X4_23 ⟨rfl, rfl, by decide⟩ rfl ?_
    refine Wq.aaldS dX4_save_24 h.1 h.2.1 ?_
    replace h := h.2.2
    refine Wq.aload_n (t := 10) (r := 8) (j := 0) dX4_save_25 rfl ?_
    refine Wq.getf (v := pO 0 0 0) dX4_save_26 fl_X4_12 ⟨rfl, rfl, by decide⟩ rfl ?_
    refine Wq.callVV (As := [pO 0 0 0]) dX4_save_29 fX1_copyFrom ml_X4_165 rfl (by decide) rfl (Nat.le_of_ble_eq_true rfl) (Nat.le_of_ble_eq_true rfl) h (fun m7 h => ?_)
    refine Wq.aload_n (t := 10) (r := 8) (j := 0) dX4_save_32 rfl ?_
    refine Wq.dup dX4_save_33 rfl ?_
    refine Wq.getf (v := pI (m7.1 8 10 0 3)) dX4_save_34 fl_X4_23 ⟨rfl, rfl, by decide⟩ rfl ?_
    refine Wq.iconst (v := 1) dX4_save_37 (by decide) ?_
    refine Wq.iadd dX4_save_38 ?_
    refine Wq.putI dX4_save_39 fw_X4_23 ⟨rfl, rfl, by decide⟩ ⟨rfl, by decide, by decide⟩ ⟨rfl, rfl⟩ ?_
    exact Wq.vret dX4_save_42 rfl h
set_option maxHeartbeats 4000000 in
set_option maxRecDepth 20000 in
theorem sgX4_addExaminer {g : GG} {d : Nat} {c n : Nat} {m : PM} {Q : Ou → PM → Nat → Nat → Prop}  (h : (((m.1 0 0 0 1) < 4 → Wp g (d + 5) MX4_save 0 [some (pO 10 8 0)] [] m (cV fun m3 => Wp g (d + 5) MX1_takeOnExaminer 0 [some (pO 0 0 0)] [] m3 (cI fun r4 m5 => Q (.inl (some (pI r4))) m5 c n))) ∧ (¬ (m.1 0 0 0 1) < 4 → Q (.inr 1) m c n))) : Wq g (d + 6) MX4_addExaminer c n 0 [some (pO 10 8 0)] [] m Q := by
  refine Wq.few (ls' := [some (pO 10 8 0)]) ⟨rfl, trivial⟩ ?_
  refine Wq.aload_n (t := 10) (r := 8) (j := 0) dX4_addExaminer_0 rfl ?_
  refine Wq.getf (v := pO 0 0 0) dX4_addExaminer_1 fl_X4_12 ⟨rfl, rfl, by decide⟩ rfl ?_
  refine Wq.getf (v := pI (m.1 0 0 0 1)) dX4_addExaminer_4 fl_X4_34 ⟨rfl, rfl, by decide⟩ rfl ?_
  refine Wq.iconst (v := 4) dX4_addExaminer_7 (by decide) ?_
  refine Wq.icmplt (tgt := 21) dX4_addExaminer_8 (by decide) (fun q1 => ?_) (fun q1 => ?_)
  · replace h := h.1 q1
    refine Wq.aload_n (t := 10) (r := 8) (j := 0) dX4_addExaminer_21 rfl ?_
    refine Wq.callVV (As := []) dX4_addExaminer_22 fX4_save ml_X4_44 rfl (by decide) rfl (Nat.le_of_ble_eq_true rfl) (Nat.le_of_ble_eq_true rfl) h (fun m3 h => ?_)
    refine Wq.aload_n (t := 10) (r := 8) (j := 0) dX4_addExaminer_25 rfl ?_
    refine Wq.getf (v := pO 0 0 0) dX4_addExaminer_26 fl_X4_12 ⟨rfl, rfl, by decide⟩ rfl ?_
    refine Wq.callVI (As := []) dX4_addExaminer_29 fX1_takeOnExaminer ml_X4_47 rfl (by decide) rfl (Nat.le_of_ble_eq_true rfl) (Nat.le_of_ble_eq_true rfl) h (fun r4 m5 h => ?_)
    exact Wq.iret dX4_addExaminer_32 (⟨_, rfl, rfl⟩) h
  · replace h := h.2 q1
    exact Wq.throw (E := 1) rfl dX4_addExaminer_11 dX4_addExaminer_14 dX4_addExaminer_15 dX4_addExaminer_17 dX4_addExaminer_20 (List.mem_of_getElem? (i := 0) rfl) (by decide) h
set_option maxHeartbeats 4000000 in
set_option maxRecDepth 20000 in
theorem sgX4_addPupil {g : GG} {d : Nat} {c n : Nat} {m : PM} {Q : Ou → PM → Nat → Nat → Prop}  (h : (((m.1 0 0 0 2) < 12 → Wp g (d + 5) MX4_save 0 [some (pO 10 8 0)] [] m (cV fun m3 => (vp_in (m3.1 0 0 0 2) 12 ∧ Q (.inl (some (pI (m3.1 0 0 0 2)))) (setI (setI m3 0 0 0 2 ((m3.1 0 0 0 2) + 1)) 4 0 (ix (m3.1 0 0 0 2)) 2 ((setI m3 0 0 0 2 ((m3.1 0 0 0 2) + 1)).1 0 0 0 0)) c n))) ∧ (¬ (m.1 0 0 0 2) < 12 → Q (.inr 1) m c n))) : Wq g (d + 6) MX4_addPupil c n 0 [some (pO 10 8 0)] [] m Q := by
  refine Wq.few (ls' := [some (pO 10 8 0)]) ⟨rfl, trivial⟩ ?_
  refine Wq.aload_n (t := 10) (r := 8) (j := 0) dX4_addPupil_0 rfl ?_
  refine Wq.getf (v := pO 0 0 0) dX4_addPupil_1 fl_X4_12 ⟨rfl, rfl, by decide⟩ rfl ?_
  refine Wq.getf (v := pI (m.1 0 0 0 2)) dX4_addPupil_4 fl_X4_51 ⟨rfl, rfl, by decide⟩ rfl ?_
  refine Wq.bipush (v := 12) dX4_addPupil_7 (by decide) ?_
  refine Wq.icmplt (tgt := 22) dX4_addPupil_9 (by decide) (fun q1 => ?_) (fun q1 => ?_)
  · replace h := h.1 q1
    refine Wq.aload_n (t := 10) (r := 8) (j := 0) dX4_addPupil_22 rfl ?_
    refine Wq.callVV (As := []) dX4_addPupil_23 fX4_save ml_X4_44 rfl (by decide) rfl (Nat.le_of_ble_eq_true rfl) (Nat.le_of_ble_eq_true rfl) h (fun m3 h => ?_)
    refine Wq.aload_n (t := 10) (r := 8) (j := 0) dX4_addPupil_26 rfl ?_
    refine Wq.getf (v := pO 0 0 0) dX4_addPupil_27 fl_X4_12 ⟨rfl, rfl, by decide⟩ rfl ?_
    refine Wq.callVI (As := []) dX4_addPupil_30 fX1_takeOnPupil ml_X4_56 rfl (by decide) rfl (Nat.le_of_ble_eq_true rfl) (Nat.le_of_ble_eq_true rfl) ?_ (fun _ _ h9 => h9)
    refine Wq.few (ls' := [some (pO 0 0 0), none]) ⟨rfl, trivial⟩ ?_
    refine Wq.aload_n (t := 0) (r := 0) (j := 0) dX1_takeOnPupil_0 rfl ?_
    refine Wq.getf (v := pI (m3.1 0 0 0 2)) dX1_takeOnPupil_1 fl_X1_18 ⟨rfl, rfl, by decide⟩ rfl ?_
    refine Wq.istore_n (ls2 := [some (pO 0 0 0), some (pI (m3.1 0 0 0 2))]) dX1_takeOnPupil_4 (by decide) rfl ?_
    refine Wq.aload_n (t := 0) (r := 0) (j := 0) dX1_takeOnPupil_5 rfl ?_
    refine Wq.dup dX1_takeOnPupil_6 rfl ?_
    refine Wq.getf (v := pI (m3.1 0 0 0 2)) dX1_takeOnPupil_7 fl_X1_18 ⟨rfl, rfl, by decide⟩ rfl ?_
    refine Wq.iconst (v := 1) dX1_takeOnPupil_10 (by decide) ?_
    refine Wq.iadd dX1_takeOnPupil_11 ?_
    refine Wq.putI dX1_takeOnPupil_12 fw_X1_18 ⟨rfl, rfl, by decide⟩ ⟨rfl, by decide, by decide⟩ ⟨rfl, rfl⟩ ?_
    refine Wq.aload_n (t := 0) (r := 0) (j := 0) dX1_takeOnPupil_15 rfl ?_
    refine Wq.getf (v := pO 7 0 0) dX1_takeOnPupil_16 fl_X1_39 ⟨rfl, rfl, by decide⟩ rfl ?_
    refine Wq.iload_n (x := (m3.1 0 0 0 2)) dX1_takeOnPupil_19 rfl ?_
    refine Wq.aaldP dX1_takeOnPupil_20 h.1 ?_
    replace h := h.2
    refine Wq.aload_n (t := 0) (r := 0) (j := 0) dX1_takeOnPupil_21 rfl ?_
    refine Wq.getf (v := pI ((setI m3 0 0 0 2 ((m3.1 0 0 0 2) + 1)).1 0 0 0 0)) dX1_takeOnPupil_22 fl_X1_9 ⟨rfl, rfl, by decide⟩ rfl ?_
    refine Wq.putI dX1_takeOnPupil_25 fw_X1_80 ⟨rfl, rfl, by decide⟩ ⟨rfl, by decide, by decide⟩ ⟨rfl, rfl⟩ ?_
    refine Wq.iload_n (x := (m3.1 0 0 0 2)) dX1_takeOnPupil_28 rfl ?_
    refine Wq.iretI dX1_takeOnPupil_29 (⟨_, rfl, rfl⟩) ?_
    exact Wq.iret dX4_addPupil_33 (⟨_, rfl, rfl⟩) h
  · replace h := h.2 q1
    exact Wq.throw (E := 1) rfl dX4_addPupil_12 dX4_addPupil_15 dX4_addPupil_16 dX4_addPupil_18 dX4_addPupil_21 (List.mem_of_getElem? (i := 1) rfl) (by decide) h
set_option maxHeartbeats 4000000 in
set_option maxRecDepth 20000 in
theorem sgX4_ask {g : GG} {d : Nat} {c n : Nat} {m : PM} {Q : Ou → PM → Nat → Nat → Prop} {x1 : Int32} (h : (((¬ x1 < 0) ∧ (¬ (m.1 0 0 0 2) ≤ x1) → ((vp_in x1 12 ∧ True) ∧ (((m.1 0 4 (ix x1) 0) = 0 → Wp g (d + 5) MX4_save 0 [some (pO 10 8 0)] [] m (cV fun m4 => Wp g (d + 5) MX1_letAsk 0 [some (pO 0 0 0), some (pI x1)] [] m4 (cI fun r5 m6 => Q (.inl (some (pI r5))) m6 c n))) ∧ (¬ ((m.1 0 4 (ix x1) 0) = 0) → Q (.inr 1) m c n)))) ∧ (¬ ((¬ x1 < 0) ∧ (¬ (m.1 0 0 0 2) ≤ x1)) → Q (.inr 3) m c n))) : Wq g (d + 6) MX4_ask c n 0 [some (pO 10 8 0), some (pI x1)] [] m Q := by
  refine Wq.few (ls' := [some (pO 10 8 0), some (pI x1)]) ⟨rfl, ⟨rfl, trivial⟩⟩ ?_
  refine Wq.aload_n (t := 10) (r := 8) (j := 0) dX4_ask_0 rfl ?_
  refine Wq.getf (v := pO 0 0 0) dX4_ask_1 fl_X4_12 ⟨rfl, rfl, by decide⟩ rfl ?_
  refine Wq.iload_n (x := x1) dX4_ask_4 rfl ?_
  refine Wq.callVI (As := [pI x1]) dX4_ask_5 fX1_hasPupil ml_X4_59 rfl (by decide) rfl (Nat.le_of_ble_eq_true rfl) (Nat.le_of_ble_eq_true rfl) (suX1_hasPupil trivial) (fun x8 m9 e9 => ?_)
  obtain ⟨rfl, rfl⟩ := e9
  refine Wq.ifne (tgt := 21) dX4_ask_8 (by decide) (fun q1 => ?_) (fun q1 => ?_)
  · replace h := h.1 (bI_1 q1)
    refine Wq.aload_n (t := 10) (r := 8) (j := 0) dX4_ask_21 rfl ?_
    refine Wq.getf (v := pO 0 0 0) dX4_ask_22 fl_X4_12 ⟨rfl, rfl, by decide⟩ rfl ?_
    refine Wq.iload_n (x := x1) dX4_ask_25 rfl ?_
    refine Wq.callVI (As := [pI x1]) dX4_ask_26 fX1_mayAsk ml_X4_68 rfl (by decide) rfl (Nat.le_of_ble_eq_true rfl) (Nat.le_of_ble_eq_true rfl) (suX1_mayAsk h.1) (fun x7 m9 e9 => ?_)
    obtain ⟨rfl, rfl⟩ := e9
    replace h := h.2
    refine Wq.ifne (tgt := 42) dX4_ask_29 (by decide) (fun q2 => ?_) (fun q2 => ?_)
    · replace h := h.1 (bI_1 q2)
      refine Wq.aload_n (t := 10) (r := 8) (j := 0) dX4_ask_42 rfl ?_
      refine Wq.callVV (As := []) dX4_ask_43 fX4_save ml_X4_44 rfl (by decide) rfl (Nat.le_of_ble_eq_true rfl) (Nat.le_of_ble_eq_true rfl) h (fun m4 h => ?_)
      refine Wq.aload_n (t := 10) (r := 8) (j := 0) dX4_ask_46 rfl ?_
      refine Wq.getf (v := pO 0 0 0) dX4_ask_47 fl_X4_12 ⟨rfl, rfl, by decide⟩ rfl ?_
      refine Wq.iload_n (x := x1) dX4_ask_50 rfl ?_
      refine Wq.callVI (As := [pI x1]) dX4_ask_51 fX1_letAsk ml_X4_73 rfl (by decide) rfl (Nat.le_of_ble_eq_true rfl) (Nat.le_of_ble_eq_true rfl) h (fun r5 m6 h => ?_)
      exact Wq.iret dX4_ask_54 (⟨_, rfl, rfl⟩) h
    · replace h := h.2 (bI_0 q2)
      exact Wq.throw (E := 1) rfl dX4_ask_32 dX4_ask_35 dX4_ask_36 dX4_ask_38 dX4_ask_41 (List.mem_of_getElem? (i := 3) rfl) (by decide) h
  · replace h := h.2 (bI_0 q1)
    exact Wq.throw (E := 3) rfl dX4_ask_11 dX4_ask_14 dX4_ask_15 dX4_ask_17 dX4_ask_20 (List.mem_of_getElem? (i := 2) rfl) (by decide) h
set_option maxHeartbeats 4000000 in
set_option maxRecDepth 20000 in
theorem sgX4_quit {g : GG} {d : Nat} {c n : Nat} {m : PM} {Q : Ou → PM → Nat → Nat → Prop} {x1 : Int32} (h : (((¬ x1 < 0) ∧ (¬ (m.1 0 0 0 2) ≤ x1) → ((vp_in x1 12 ∧ True) ∧ ((((m.1 0 4 (ix x1) 0) = 1) ∨ ((m.1 0 4 (ix x1) 0) = 2) → Wp g (d + 5) MX4_save 0 [some (pO 10 8 0)] [] m (cV fun m4 => Wp g (d + 5) MX1_letQuit 0 [some (pO 0 0 0), some (pI x1)] [] m4 (cI fun r5 m6 => Q (.inl (some (pI r5))) m6 c n))) ∧ (¬ (((m.1 0 4 (ix x1) 0) = 1) ∨ ((m.1 0 4 (ix x1) 0) = 2)) → Q (.inr 1) m c n)))) ∧ (¬ ((¬ x1 < 0) ∧ (¬ (m.1 0 0 0 2) ≤ x1)) → Q (.inr 3) m c n))) : Wq g (d + 6) MX4_quit c n 0 [some (pO 10 8 0), some (pI x1)] [] m Q := by
  refine Wq.few (ls' := [some (pO 10 8 0), some (pI x1)]) ⟨rfl, ⟨rfl, trivial⟩⟩ ?_
  refine Wq.aload_n (t := 10) (r := 8) (j := 0) dX4_quit_0 rfl ?_
  refine Wq.getf (v := pO 0 0 0) dX4_quit_1 fl_X4_12 ⟨rfl, rfl, by decide⟩ rfl ?_
  refine Wq.iload_n (x := x1) dX4_quit_4 rfl ?_
  refine Wq.callVI (As := [pI x1]) dX4_quit_5 fX1_hasPupil ml_X4_59 rfl (by decide) rfl (Nat.le_of_ble_eq_true rfl) (Nat.le_of_ble_eq_true rfl) (suX1_hasPupil trivial) (fun x8 m9 e9 => ?_)
  obtain ⟨rfl, rfl⟩ := e9
  refine Wq.ifne (tgt := 21) dX4_quit_8 (by decide) (fun q1 => ?_) (fun q1 => ?_)
  · replace h := h.1 (bI_1 q1)
    refine Wq.aload_n (t := 10) (r := 8) (j := 0) dX4_quit_21 rfl ?_
    refine Wq.getf (v := pO 0 0 0) dX4_quit_22 fl_X4_12 ⟨rfl, rfl, by decide⟩ rfl ?_
    refine Wq.iload_n (x := x1) dX4_quit_25 rfl ?_
    refine Wq.callVI (As := [pI x1]) dX4_quit_26 fX1_mayQuit ml_X4_77 rfl (by decide) rfl (Nat.le_of_ble_eq_true rfl) (Nat.le_of_ble_eq_true rfl) (suX1_mayQuit h.1) (fun x7 m9 e9 => ?_)
    obtain ⟨rfl, rfl⟩ := e9
    replace h := h.2
    refine Wq.ifne (tgt := 42) dX4_quit_29 (by decide) (fun q2 => ?_) (fun q2 => ?_)
    · replace h := h.1 (bI_1 q2)
      refine Wq.aload_n (t := 10) (r := 8) (j := 0) dX4_quit_42 rfl ?_
      refine Wq.callVV (As := []) dX4_quit_43 fX4_save ml_X4_44 rfl (by decide) rfl (Nat.le_of_ble_eq_true rfl) (Nat.le_of_ble_eq_true rfl) h (fun m4 h => ?_)
      refine Wq.aload_n (t := 10) (r := 8) (j := 0) dX4_quit_46 rfl ?_
      refine Wq.getf (v := pO 0 0 0) dX4_quit_47 fl_X4_12 ⟨rfl, rfl, by decide⟩ rfl ?_
      refine Wq.iload_n (x := x1) dX4_quit_50 rfl ?_
      refine Wq.callVI (As := [pI x1]) dX4_quit_51 fX1_letQuit ml_X4_82 rfl (by decide) rfl (Nat.le_of_ble_eq_true rfl) (Nat.le_of_ble_eq_true rfl) h (fun r5 m6 h => ?_)
      exact Wq.iret dX4_quit_54 (⟨_, rfl, rfl⟩) h
    · replace h := h.2 (bI_0 q2)
      exact Wq.throw (E := 1) rfl dX4_quit_32 dX4_quit_35 dX4_quit_36 dX4_quit_38 dX4_quit_41 (List.mem_of_getElem? (i := 4) rfl) (by decide) h
  · replace h := h.2 (bI_0 q1)
    exact Wq.throw (E := 3) rfl dX4_quit_11 dX4_quit_14 dX4_quit_15 dX4_quit_17 dX4_quit_20 (List.mem_of_getElem? (i := 2) rfl) (by decide) h
set_option maxHeartbeats 4000000 in
set_option maxRecDepth 20000 in
theorem sgX4_cancel {g : GG} {d : Nat} {c n : Nat} {m : PM} {Q : Ou → PM → Nat → Nat → Prop} {x1 : Int32} {x2 : Int32} (h : (((¬ x1 < 0) ∧ (¬ (m.1 0 0 0 1) ≤ x1) → (((¬ x2 < (0 : Int32)) ∧ (¬ (9 : Int32) < x2) → Wp g (d + 5) MX4_save 0 [some (pO 10 8 0)] [] m (cV fun m4 => Wp g (d + 5) MX1_cancelMorning 0 [some (pO 0 0 0), some (pI x1), some (pI x2)] [] m4 (cI fun r5 m6 => Q (.inl (some (pI r5))) m6 c n))) ∧ (¬ ((¬ x2 < (0 : Int32)) ∧ (¬ (9 : Int32) < x2)) → Q (.inr 2) m c n))) ∧ (¬ ((¬ x1 < 0) ∧ (¬ (m.1 0 0 0 1) ≤ x1)) → Q (.inr 3) m c n))) : Wq g (d + 6) MX4_cancel c n 0 [some (pO 10 8 0), some (pI x1), some (pI x2)] [] m Q := by
  refine Wq.few (ls' := [some (pO 10 8 0), some (pI x1), some (pI x2)]) ⟨rfl, ⟨rfl, ⟨rfl, trivial⟩⟩⟩ ?_
  refine Wq.aload_n (t := 10) (r := 8) (j := 0) dX4_cancel_0 rfl ?_
  refine Wq.getf (v := pO 0 0 0) dX4_cancel_1 fl_X4_12 ⟨rfl, rfl, by decide⟩ rfl ?_
  refine Wq.iload_n (x := x1) dX4_cancel_4 rfl ?_
  refine Wq.callVI (As := [pI x1]) dX4_cancel_5 fX1_hasExaminer ml_X4_85 rfl (by decide) rfl (Nat.le_of_ble_eq_true rfl) (Nat.le_of_ble_eq_true rfl) (suX1_hasExaminer trivial) (fun x8 m9 e9 => ?_)
  obtain ⟨rfl, rfl⟩ := e9
  refine Wq.ifne (tgt := 21) dX4_cancel_8 (by decide) (fun q1 => ?_) (fun q1 => ?_)
  · replace h := h.1 (bI_1 q1)
    refine Wq.iload_n (x := x2) dX4_cancel_21 rfl ?_
    refine Wq.iconst (v := 0) dX4_cancel_22 (by decide) ?_
    refine Wq.bipush (v := 9) dX4_cancel_23 (by decide) ?_
    refine Wq.callSI (As := [pI x2, pI 0, pI 9]) dX4_cancel_25 fX4_isFromTo ml_X4_90 rfl (Nat.le_of_ble_eq_true rfl) (Nat.le_of_ble_eq_true rfl) (suX4_isFromTo trivial) (fun x7 m9 e9 => ?_)
    obtain ⟨rfl, rfl⟩ := e9
    refine Wq.ifne (tgt := 41) dX4_cancel_28 (by decide) (fun q2 => ?_) (fun q2 => ?_)
    · replace h := h.1 (bI_1 q2)
      refine Wq.aload_n (t := 10) (r := 8) (j := 0) dX4_cancel_41 rfl ?_
      refine Wq.callVV (As := []) dX4_cancel_42 fX4_save ml_X4_44 rfl (by decide) rfl (Nat.le_of_ble_eq_true rfl) (Nat.le_of_ble_eq_true rfl) h (fun m4 h => ?_)
      refine Wq.aload_n (t := 10) (r := 8) (j := 0) dX4_cancel_45 rfl ?_
      refine Wq.getf (v := pO 0 0 0) dX4_cancel_46 fl_X4_12 ⟨rfl, rfl, by decide⟩ rfl ?_
      refine Wq.iload_n (x := x1) dX4_cancel_49 rfl ?_
      refine Wq.iload_n (x := x2) dX4_cancel_50 rfl ?_
      refine Wq.callVI (As := [pI x1, pI x2]) dX4_cancel_51 fX1_cancelMorning ml_X4_99 rfl (by decide) rfl (Nat.le_of_ble_eq_true rfl) (Nat.le_of_ble_eq_true rfl) h (fun r5 m6 h => ?_)
      exact Wq.iret dX4_cancel_54 (⟨_, rfl, rfl⟩) h
    · replace h := h.2 (bI_0 q2)
      exact Wq.throw (E := 2) rfl dX4_cancel_31 dX4_cancel_34 dX4_cancel_35 dX4_cancel_37 dX4_cancel_40 (List.mem_of_getElem? (i := 6) rfl) (by decide) h
  · replace h := h.2 (bI_0 q1)
    exact Wq.throw (E := 3) rfl dX4_cancel_11 dX4_cancel_14 dX4_cancel_15 dX4_cancel_17 dX4_cancel_20 (List.mem_of_getElem? (i := 5) rfl) (by decide) h
set_option maxHeartbeats 4000000 in
set_option maxRecDepth 20000 in
theorem sgX4_test {g : GG} {d : Nat} {c n : Nat} {m : PM} {Q : Ou → PM → Nat → Nat → Prop} {x1 : Int32} {x2 : Int32} (h : (((¬ x1 < 0) ∧ (¬ (m.1 0 0 0 2) ≤ x1) → Wp g (d + 5) MX1_mayBeTested 0 [some (pO 0 0 0), some (pI x1)] [] m (cI fun r2 m3 => ((¬ r2 = 0 → Wp g (d + 5) MX4_save 0 [some (pO 10 8 0)] [] m3 (cV fun m6 => Wp g (d + 5) MX1_holdTest 0 [some (pO 0 0 0), some (pI x1), some (pI x2)] [] m6 (cI fun r7 m8 => Q (.inl (some (pI r7))) m8 c n))) ∧ (r2 = 0 → Q (.inr 1) m3 c n)))) ∧ (¬ ((¬ x1 < 0) ∧ (¬ (m.1 0 0 0 2) ≤ x1)) → Q (.inr 3) m c n))) : Wq g (d + 6) MX4_test c n 0 [some (pO 10 8 0), some (pI x1), some (pI x2)] [] m Q := by
  refine Wq.few (ls' := [some (pO 10 8 0), some (pI x1), some (pI x2)]) ⟨rfl, ⟨rfl, ⟨rfl, trivial⟩⟩⟩ ?_
  refine Wq.aload_n (t := 10) (r := 8) (j := 0) dX4_test_0 rfl ?_
  refine Wq.getf (v := pO 0 0 0) dX4_test_1 fl_X4_12 ⟨rfl, rfl, by decide⟩ rfl ?_
  refine Wq.iload_n (x := x1) dX4_test_4 rfl ?_
  refine Wq.callVI (As := [pI x1]) dX4_test_5 fX1_hasPupil ml_X4_59 rfl (by decide) rfl (Nat.le_of_ble_eq_true rfl) (Nat.le_of_ble_eq_true rfl) (suX1_hasPupil trivial) (fun x9 m9 e9 => ?_)
  obtain ⟨rfl, rfl⟩ := e9
  refine Wq.ifne (tgt := 21) dX4_test_8 (by decide) (fun q1 => ?_) (fun q1 => ?_)
  · replace h := h.1 (bI_1 q1)
    refine Wq.aload_n (t := 10) (r := 8) (j := 0) dX4_test_21 rfl ?_
    refine Wq.getf (v := pO 0 0 0) dX4_test_22 fl_X4_12 ⟨rfl, rfl, by decide⟩ rfl ?_
    refine Wq.iload_n (x := x1) dX4_test_25 rfl ?_
    refine Wq.callVI (As := [pI x1]) dX4_test_26 fX1_mayBeTested ml_X4_103 rfl (by decide) rfl (Nat.le_of_ble_eq_true rfl) (Nat.le_of_ble_eq_true rfl) h (fun r2 m3 h => ?_)
    refine Wq.ifne (tgt := 42) dX4_test_29 (by decide) (fun q4 => ?_) (fun q4 => ?_)
    · replace h := h.1 q4
      refine Wq.aload_n (t := 10) (r := 8) (j := 0) dX4_test_42 rfl ?_
      refine Wq.callVV (As := []) dX4_test_43 fX4_save ml_X4_44 rfl (by decide) rfl (Nat.le_of_ble_eq_true rfl) (Nat.le_of_ble_eq_true rfl) h (fun m6 h => ?_)
      refine Wq.aload_n (t := 10) (r := 8) (j := 0) dX4_test_46 rfl ?_
      refine Wq.getf (v := pO 0 0 0) dX4_test_47 fl_X4_12 ⟨rfl, rfl, by decide⟩ rfl ?_
      refine Wq.iload_n (x := x1) dX4_test_50 rfl ?_
      refine Wq.iload_n (x := x2) dX4_test_51 rfl ?_
      refine Wq.callVI (As := [pI x1, pI x2]) dX4_test_52 fX1_holdTest ml_X4_108 rfl (by decide) rfl (Nat.le_of_ble_eq_true rfl) (Nat.le_of_ble_eq_true rfl) h (fun r7 m8 h => ?_)
      exact Wq.iret dX4_test_55 (⟨_, rfl, rfl⟩) h
    · replace h := h.2 q4
      exact Wq.throw (E := 1) rfl dX4_test_32 dX4_test_35 dX4_test_36 dX4_test_38 dX4_test_41 (List.mem_of_getElem? (i := 7) rfl) (by decide) h
  · replace h := h.2 (bI_0 q1)
    exact Wq.throw (E := 3) rfl dX4_test_11 dX4_test_14 dX4_test_15 dX4_test_17 dX4_test_20 (List.mem_of_getElem? (i := 2) rfl) (by decide) h
set_option maxHeartbeats 4000000 in
set_option maxRecDepth 20000 in
theorem sgX4_next {g : GG} {d : Nat} {c n : Nat} {m : PM} {Q : Ou → PM → Nat → Nat → Prop}  (h : ((¬ 9999 ≤ (m.1 0 0 0 0) → Wp g (d + 5) MX4_save 0 [some (pO 10 8 0)] [] m (cV fun m3 => Wp g (d + 5) MX1_goOn 0 [some (pO 0 0 0)] [] m3 (cI fun r4 m5 => Q (.inl (some (pI r4))) m5 c n))) ∧ (¬ (¬ 9999 ≤ (m.1 0 0 0 0)) → Q (.inr 1) m c n))) : Wq g (d + 6) MX4_next c n 0 [some (pO 10 8 0)] [] m Q := by
  refine Wq.few (ls' := [some (pO 10 8 0)]) ⟨rfl, trivial⟩ ?_
  refine Wq.aload_n (t := 10) (r := 8) (j := 0) dX4_next_0 rfl ?_
  refine Wq.getf (v := pO 0 0 0) dX4_next_1 fl_X4_12 ⟨rfl, rfl, by decide⟩ rfl ?_
  refine Wq.callVI (As := []) dX4_next_4 fX1_mayGoOn ml_X4_112 rfl (by decide) rfl (Nat.le_of_ble_eq_true rfl) (Nat.le_of_ble_eq_true rfl) (suX1_mayGoOn trivial) (fun x6 m9 e9 => ?_)
  obtain ⟨rfl, rfl⟩ := e9
  refine Wq.ifne (tgt := 20) dX4_next_7 (by decide) (fun q1 => ?_) (fun q1 => ?_)
  · replace h := h.1 (bI_1 q1)
    refine Wq.aload_n (t := 10) (r := 8) (j := 0) dX4_next_20 rfl ?_
    refine Wq.callVV (As := []) dX4_next_21 fX4_save ml_X4_44 rfl (by decide) rfl (Nat.le_of_ble_eq_true rfl) (Nat.le_of_ble_eq_true rfl) h (fun m3 h => ?_)
    refine Wq.aload_n (t := 10) (r := 8) (j := 0) dX4_next_24 rfl ?_
    refine Wq.getf (v := pO 0 0 0) dX4_next_25 fl_X4_12 ⟨rfl, rfl, by decide⟩ rfl ?_
    refine Wq.callVI (As := []) dX4_next_28 fX1_goOn ml_X4_118 rfl (by decide) rfl (Nat.le_of_ble_eq_true rfl) (Nat.le_of_ble_eq_true rfl) h (fun r4 m5 h => ?_)
    exact Wq.iret dX4_next_31 (⟨_, rfl, rfl⟩) h
  · replace h := h.2 (bI_0 q1)
    exact Wq.throw (E := 1) rfl dX4_next_10 dX4_next_13 dX4_next_14 dX4_next_16 dX4_next_19 (List.mem_of_getElem? (i := 8) rfl) (by decide) h
set_option maxHeartbeats 4000000 in
set_option maxRecDepth 20000 in
theorem sgX4_set {g : GG} {d : Nat} {c n : Nat} {m : PM} {Q : Ou → PM → Nat → Nat → Prop} {x1 : Int32} {x2 : Int32} (h : (((¬ x1 < (0 : Int32)) ∧ (¬ (4 - 1) < x1) → (vp_in x1 4 ∧ (((¬ x2 < (0 : Int32)) ∧ (¬ (([20, 1, 9, 999] : List Int32).getD (ix x1) 0) < x2) → Wp g (d + 5) MX4_save 0 [some (pO 10 8 0)] [] m (cV fun m4 => (vp_in x1 4 ∧ (vp_in x1 4 ∧ Q (.inl (some (pI (m4.1 0 1 0 (ix x1))))) (setI m4 1 0 0 (ix x1) x2) c n)))) ∧ (¬ ((¬ x2 < (0 : Int32)) ∧ (¬ (([20, 1, 9, 999] : List Int32).getD (ix x1) 0) < x2)) → Q (.inr 2) m c n)))) ∧ (¬ ((¬ x1 < (0 : Int32)) ∧ (¬ (4 - 1) < x1)) → Q (.inr 3) m c n))) : Wq g (d + 6) MX4_set c n 0 [some (pO 10 8 0), some (pI x1), some (pI x2)] [] m Q := by
  refine Wq.few (ls' := [some (pO 10 8 0), some (pI x1), some (pI x2), none]) ⟨rfl, ⟨rfl, ⟨rfl, trivial⟩⟩⟩ ?_
  refine Wq.iload_n (x := x1) dX4_set_0 rfl ?_
  refine Wq.callSI (As := [pI x1]) dX4_set_1 fX4_isSetting ml_X4_121 rfl (Nat.le_of_ble_eq_true rfl) (Nat.le_of_ble_eq_true rfl) (suX4_isSetting trivial) (fun x6 m9 e9 => ?_)
  obtain ⟨rfl, rfl⟩ := e9
  refine Wq.ifne (tgt := 17) dX4_set_4 (by decide) (fun q1 => ?_) (fun q1 => ?_)
  · replace h := h.1 (bI_1 q1)
    refine Wq.iload_n (x := x2) dX4_set_17 rfl ?_
    refine Wq.iconst (v := 0) dX4_set_18 (by decide) ?_
    refine Wq.getsH dX4_set_19 gs_X4_126 ?_
    refine Wq.iload_n (x := x1) dX4_set_22 rfl ?_
    refine Wq.ialdH dX4_set_23 h.1 ?_
    replace h := h.2
    refine Wq.callSI (As := [pI x2, pI 0, pI (([20, 1, 9, 999] : List Int32).getD (ix x1) 0)]) dX4_set_24 fX4_isFromTo ml_X4_90 rfl (Nat.le_of_ble_eq_true rfl) (Nat.le_of_ble_eq_true rfl) (suX4_isFromTo trivial) (fun x5 m9 e9 => ?_)
    obtain ⟨rfl, rfl⟩ := e9
    refine Wq.ifne (tgt := 40) dX4_set_27 (by decide) (fun q2 => ?_) (fun q2 => ?_)
    · replace h := h.1 (bI_1 q2)
      refine Wq.aload_n (t := 10) (r := 8) (j := 0) dX4_set_40 rfl ?_
      refine Wq.callVV (As := []) dX4_set_41 fX4_save ml_X4_44 rfl (by decide) rfl (Nat.le_of_ble_eq_true rfl) (Nat.le_of_ble_eq_true rfl) h (fun m4 h => ?_)
      refine Wq.aload_n (t := 10) (r := 8) (j := 0) dX4_set_44 rfl ?_
      refine Wq.getf (v := pO 0 0 0) dX4_set_45 fl_X4_12 ⟨rfl, rfl, by decide⟩ rfl ?_
      refine Wq.getf (v := pO 1 0 0) dX4_set_48 fl_X4_132 ⟨rfl, rfl, by decide⟩ rfl ?_
      refine Wq.iload_n (x := x1) dX4_set_51 rfl ?_
      refine Wq.iald dX4_set_52 rfl h.1 ?_
      replace h := h.2
      refine Wq.istore_n (ls2 := [some (pO 10 8 0), some (pI x1), some (pI x2), some (pI (m4.1 0 1 0 (ix x1)))]) dX4_set_53 (by decide) rfl ?_
      refine Wq.aload_n (t := 10) (r := 8) (j := 0) dX4_set_54 rfl ?_
      refine Wq.getf (v := pO 0 0 0) dX4_set_55 fl_X4_12 ⟨rfl, rfl, by decide⟩ rfl ?_
      refine Wq.getf (v := pO 1 0 0) dX4_set_58 fl_X4_132 ⟨rfl, rfl, by decide⟩ rfl ?_
      refine Wq.iload_n (x := x1) dX4_set_61 rfl ?_
      refine Wq.iload_n (x := x2) dX4_set_62 rfl ?_
      refine Wq.iast dX4_set_63 rfl h.1 ?_
      replace h := h.2
      refine Wq.iload_n (x := (m4.1 0 1 0 (ix x1))) dX4_set_64 rfl ?_
      exact Wq.iret dX4_set_65 (⟨_, rfl, rfl⟩) h
    · replace h := h.2 (bI_0 q2)
      exact Wq.throw (E := 2) rfl dX4_set_30 dX4_set_33 dX4_set_34 dX4_set_36 dX4_set_39 (List.mem_of_getElem? (i := 10) rfl) (by decide) h
  · replace h := h.2 (bI_0 q1)
    exact Wq.throw (E := 3) rfl dX4_set_7 dX4_set_10 dX4_set_11 dX4_set_13 dX4_set_16 (List.mem_of_getElem? (i := 9) rfl) (by decide) h
set_option maxHeartbeats 4000000 in
set_option maxRecDepth 20000 in
theorem sgX4_undo {g : GG} {d : Nat} {c n : Nat} {m : PM} {Q : Ou → PM → Nat → Nat → Prop}  (h : (((¬ (m.1 8 10 0 3) < (1 : Int32)) ∧ (¬ (6 : Int32) < (m.1 8 10 0 3)) → (vp_in ((setI m 10 8 0 3 ((m.1 8 10 0 3) - 1)).1 8 10 0 3) 6 ∧ ((ix ((setI m 10 8 0 3 ((m.1 8 10 0 3) - 1)).1 8 11 0 (ix ((setI m 10 8 0 3 ((m.1 8 10 0 3) - 1)).1 8 10 0 3)))) < 8 ∧ Wp g (d + 5) MX1_copyFrom 0 [some (pO 0 0 0), some (pO 0 (ix ((setI m 10 8 0 3 ((m.1 8 10 0 3) - 1)).1 8 11 0 (ix ((setI m 10 8 0 3 ((m.1 8 10 0 3) - 1)).1 8 10 0 3)))) 0)] [] (setI m 10 8 0 3 ((m.1 8 10 0 3) - 1)) (cV fun m3 => Q (.inl (some (pI (m3.1 8 10 0 3)))) m3 c n)))) ∧ (¬ ((¬ (m.1 8 10 0 3) < (1 : Int32)) ∧ (¬ (6 : Int32) < (m.1 8 10 0 3))) → Q (.inr 1) m c n))) : Wq g (d + 6) MX4_undo c n 0 [some (pO 10 8 0)] [] m Q := by
  refine Wq.few (ls' := [some (pO 10 8 0)]) ⟨rfl, trivial⟩ ?_
  refine Wq.aload_n (t := 10) (r := 8) (j := 0) dX4_undo_0 rfl ?_
  refine Wq.getf (v := pI (m.1 8 10 0 3)) dX4_undo_1 fl_X4_23 ⟨rfl, rfl, by decide⟩ rfl ?_
  refine Wq.iconst (v := 1) dX4_undo_4 (by decide) ?_
  refine Wq.aload_n (t := 10) (r := 8) (j := 0) dX4_undo_5 rfl ?_
  refine Wq.getf (v := pO 11 8 0) dX4_undo_6 fl_X4_19 ⟨rfl, rfl, by decide⟩ rfl ?_
  refine Wq.alen (v := 6) dX4_undo_9 rfl (by decide) rfl ?_
  refine Wq.callSI (As := [pI (m.1 8 10 0 3), pI 1, pI 6]) dX4_undo_10 fX4_isFromTo ml_X4_90 rfl (Nat.le_of_ble_eq_true rfl) (Nat.le_of_ble_eq_true rfl) (suX4_isFromTo trivial) (fun x4 m9 e9 => ?_)
  obtain ⟨rfl, rfl⟩ := e9
  refine Wq.ifne (tgt := 26) dX4_undo_13 (by decide) (fun q1 => ?_) (fun q1 => ?_)
  · replace h := h.1 (bI_1 q1)
    refine Wq.aload_n (t := 10) (r := 8) (j := 0) dX4_undo_26 rfl ?_
    refine Wq.dup dX4_undo_27 rfl ?_
    refine Wq.getf (v := pI (m.1 8 10 0 3)) dX4_undo_28 fl_X4_23 ⟨rfl, rfl, by decide⟩ rfl ?_
    refine Wq.iconst (v := 1) dX4_undo_31 (by decide) ?_
    refine Wq.isub dX4_undo_32 ?_
    refine Wq.putI dX4_undo_33 fw_X4_23 ⟨rfl, rfl, by decide⟩ ⟨rfl, by decide, by decide⟩ ⟨rfl, rfl⟩ ?_
    refine Wq.aload_n (t := 10) (r := 8) (j := 0) dX4_undo_36 rfl ?_
    refine Wq.getf (v := pO 0 0 0) dX4_undo_37 fl_X4_12 ⟨rfl, rfl, by decide⟩ rfl ?_
    refine Wq.aload_n (t := 10) (r := 8) (j := 0) dX4_undo_40 rfl ?_
    refine Wq.getf (v := pO 11 8 0) dX4_undo_41 fl_X4_19 ⟨rfl, rfl, by decide⟩ rfl ?_
    refine Wq.aload_n (t := 10) (r := 8) (j := 0) dX4_undo_44 rfl ?_
    refine Wq.getf (v := pI ((setI m 10 8 0 3 ((m.1 8 10 0 3) - 1)).1 8 10 0 3)) dX4_undo_45 fl_X4_23 ⟨rfl, rfl, by decide⟩ rfl ?_
    refine Wq.aaldS dX4_undo_48 h.1 h.2.1 ?_
    replace h := h.2.2
    refine Wq.callVV (As := [pO 0 (ix ((setI m 10 8 0 3 ((m.1 8 10 0 3) - 1)).1 8 11 0 (ix ((setI m 10 8 0 3 ((m.1 8 10 0 3) - 1)).1 8 10 0 3)))) 0]) dX4_undo_49 fX1_copyFrom ml_X4_165 rfl (by decide) rfl (Nat.le_of_ble_eq_true rfl) (Nat.le_of_ble_eq_true rfl) h (fun m3 h => ?_)
    refine Wq.aload_n (t := 10) (r := 8) (j := 0) dX4_undo_52 rfl ?_
    refine Wq.getf (v := pI (m3.1 8 10 0 3)) dX4_undo_53 fl_X4_23 ⟨rfl, rfl, by decide⟩ rfl ?_
    exact Wq.iret dX4_undo_56 (⟨_, rfl, rfl⟩) h
  · replace h := h.2 (bI_0 q1)
    exact Wq.throw (E := 1) rfl dX4_undo_16 dX4_undo_19 dX4_undo_20 dX4_undo_22 dX4_undo_25 (List.mem_of_getElem? (i := 14) rfl) (by decide) h
set_option maxHeartbeats 4000000 in
set_option maxRecDepth 20000 in
theorem sgX4_pupil {g : GG} {d : Nat} {c n : Nat} {m : PM} {Q : Ou → PM → Nat → Nat → Prop} {x1 : Int32} {x2 : Int32} (h : (((¬ x1 < 0) ∧ (¬ (m.1 0 0 0 2) ≤ x1) → (((¬ x2 < (0 : Int32)) ∧ (¬ (10 : Int32) < x2) → Wp g (d + 5) MX1_pupilProperty 0 [some (pO 0 0 0), some (pI x1), some (pI x2)] [] m (cI fun r3 m4 => Q (.inl (some (pI r3))) m4 c n)) ∧ (¬ ((¬ x2 < (0 : Int32)) ∧ (¬ (10 : Int32) < x2)) → Q (.inr 2) m c n))) ∧ (¬ ((¬ x1 < 0) ∧ (¬ (m.1 0 0 0 2) ≤ x1)) → Q (.inr 3) m c n))) : Wq g (d + 6) MX4_pupil c n 0 [some (pO 10 8 0), some (pI x1), some (pI x2)] [] m Q := by
  refine Wq.few (ls' := [some (pO 10 8 0), some (pI x1), some (pI x2)]) ⟨rfl, ⟨rfl, ⟨rfl, trivial⟩⟩⟩ ?_
  refine Wq.aload_n (t := 10) (r := 8) (j := 0) dX4_pupil_0 rfl ?_
  refine Wq.getf (v := pO 0 0 0) dX4_pupil_1 fl_X4_12 ⟨rfl, rfl, by decide⟩ rfl ?_
  refine Wq.iload_n (x := x1) dX4_pupil_4 rfl ?_
  refine Wq.callVI (As := [pI x1]) dX4_pupil_5 fX1_hasPupil ml_X4_59 rfl (by decide) rfl (Nat.le_of_ble_eq_true rfl) (Nat.le_of_ble_eq_true rfl) (suX1_hasPupil trivial) (fun x6 m9 e9 => ?_)
  obtain ⟨rfl, rfl⟩ := e9
  refine Wq.ifne (tgt := 21) dX4_pupil_8 (by decide) (fun q1 => ?_) (fun q1 => ?_)
  · replace h := h.1 (bI_1 q1)
    refine Wq.iload_n (x := x2) dX4_pupil_21 rfl ?_
    refine Wq.iconst (v := 0) dX4_pupil_22 (by decide) ?_
    refine Wq.bipush (v := 10) dX4_pupil_23 (by decide) ?_
    refine Wq.callSI (As := [pI x2, pI 0, pI 10]) dX4_pupil_25 fX4_isFromTo ml_X4_90 rfl (Nat.le_of_ble_eq_true rfl) (Nat.le_of_ble_eq_true rfl) (suX4_isFromTo trivial) (fun x5 m9 e9 => ?_)
    obtain ⟨rfl, rfl⟩ := e9
    refine Wq.ifne (tgt := 41) dX4_pupil_28 (by decide) (fun q2 => ?_) (fun q2 => ?_)
    · replace h := h.1 (bI_1 q2)
      refine Wq.aload_n (t := 10) (r := 8) (j := 0) dX4_pupil_41 rfl ?_
      refine Wq.getf (v := pO 0 0 0) dX4_pupil_42 fl_X4_12 ⟨rfl, rfl, by decide⟩ rfl ?_
      refine Wq.iload_n (x := x1) dX4_pupil_45 rfl ?_
      refine Wq.iload_n (x := x2) dX4_pupil_46 rfl ?_
      refine Wq.callVI (As := [pI x1, pI x2]) dX4_pupil_47 fX1_pupilProperty ml_X4_171 rfl (by decide) rfl (Nat.le_of_ble_eq_true rfl) (Nat.le_of_ble_eq_true rfl) h (fun r3 m4 h => ?_)
      exact Wq.iret dX4_pupil_50 (⟨_, rfl, rfl⟩) h
    · replace h := h.2 (bI_0 q2)
      exact Wq.throw (E := 2) rfl dX4_pupil_31 dX4_pupil_34 dX4_pupil_35 dX4_pupil_37 dX4_pupil_40 (List.mem_of_getElem? (i := 15) rfl) (by decide) h
  · replace h := h.2 (bI_0 q1)
    exact Wq.throw (E := 3) rfl dX4_pupil_11 dX4_pupil_14 dX4_pupil_15 dX4_pupil_17 dX4_pupil_20 (List.mem_of_getElem? (i := 2) rfl) (by decide) h
set_option maxHeartbeats 4000000 in
set_option maxRecDepth 20000 in
theorem sgX4_examiner {g : GG} {d : Nat} {c n : Nat} {m : PM} {Q : Ou → PM → Nat → Nat → Prop} {x1 : Int32} {x2 : Int32} (h : (((¬ x1 < 0) ∧ (¬ (m.1 0 0 0 1) ≤ x1) → (((¬ x2 < (0 : Int32)) ∧ (¬ (8 : Int32) < x2) → Wp g (d + 5) MX1_examinerProperty 0 [some (pO 0 0 0), some (pI x1), some (pI x2)] [] m (cI fun r3 m4 => Q (.inl (some (pI r3))) m4 c n)) ∧ (¬ ((¬ x2 < (0 : Int32)) ∧ (¬ (8 : Int32) < x2)) → Q (.inr 2) m c n))) ∧ (¬ ((¬ x1 < 0) ∧ (¬ (m.1 0 0 0 1) ≤ x1)) → Q (.inr 3) m c n))) : Wq g (d + 6) MX4_examiner c n 0 [some (pO 10 8 0), some (pI x1), some (pI x2)] [] m Q := by
  refine Wq.few (ls' := [some (pO 10 8 0), some (pI x1), some (pI x2)]) ⟨rfl, ⟨rfl, ⟨rfl, trivial⟩⟩⟩ ?_
  refine Wq.aload_n (t := 10) (r := 8) (j := 0) dX4_examiner_0 rfl ?_
  refine Wq.getf (v := pO 0 0 0) dX4_examiner_1 fl_X4_12 ⟨rfl, rfl, by decide⟩ rfl ?_
  refine Wq.iload_n (x := x1) dX4_examiner_4 rfl ?_
  refine Wq.callVI (As := [pI x1]) dX4_examiner_5 fX1_hasExaminer ml_X4_85 rfl (by decide) rfl (Nat.le_of_ble_eq_true rfl) (Nat.le_of_ble_eq_true rfl) (suX1_hasExaminer trivial) (fun x6 m9 e9 => ?_)
  obtain ⟨rfl, rfl⟩ := e9
  refine Wq.ifne (tgt := 21) dX4_examiner_8 (by decide) (fun q1 => ?_) (fun q1 => ?_)
  · replace h := h.1 (bI_1 q1)
    refine Wq.iload_n (x := x2) dX4_examiner_21 rfl ?_
    refine Wq.iconst (v := 0) dX4_examiner_22 (by decide) ?_
    refine Wq.bipush (v := 8) dX4_examiner_23 (by decide) ?_
    refine Wq.callSI (As := [pI x2, pI 0, pI 8]) dX4_examiner_25 fX4_isFromTo ml_X4_90 rfl (Nat.le_of_ble_eq_true rfl) (Nat.le_of_ble_eq_true rfl) (suX4_isFromTo trivial) (fun x5 m9 e9 => ?_)
    obtain ⟨rfl, rfl⟩ := e9
    refine Wq.ifne (tgt := 41) dX4_examiner_28 (by decide) (fun q2 => ?_) (fun q2 => ?_)
    · replace h := h.1 (bI_1 q2)
      refine Wq.aload_n (t := 10) (r := 8) (j := 0) dX4_examiner_41 rfl ?_
      refine Wq.getf (v := pO 0 0 0) dX4_examiner_42 fl_X4_12 ⟨rfl, rfl, by decide⟩ rfl ?_
      refine Wq.iload_n (x := x1) dX4_examiner_45 rfl ?_
      refine Wq.iload_n (x := x2) dX4_examiner_46 rfl ?_
      refine Wq.callVI (As := [pI x1, pI x2]) dX4_examiner_47 fX1_examinerProperty ml_X4_176 rfl (by decide) rfl (Nat.le_of_ble_eq_true rfl) (Nat.le_of_ble_eq_true rfl) h (fun r3 m4 h => ?_)
      exact Wq.iret dX4_examiner_50 (⟨_, rfl, rfl⟩) h
    · replace h := h.2 (bI_0 q2)
      exact Wq.throw (E := 2) rfl dX4_examiner_31 dX4_examiner_34 dX4_examiner_35 dX4_examiner_37 dX4_examiner_40 (List.mem_of_getElem? (i := 16) rfl) (by decide) h
  · replace h := h.2 (bI_0 q1)
    exact Wq.throw (E := 3) rfl dX4_examiner_11 dX4_examiner_14 dX4_examiner_15 dX4_examiner_17 dX4_examiner_20 (List.mem_of_getElem? (i := 5) rfl) (by decide) h
set_option maxHeartbeats 4000000 in
set_option maxRecDepth 20000 in
theorem sgX4_slot {g : GG} {d : Nat} {c n : Nat} {m : PM} {Q : Ou → PM → Nat → Nat → Prop} {x1 : Int32} {x2 : Int32} {x3 : Int32} (h : (((¬ x1 < 0) ∧ (¬ (m.1 0 0 0 1) ≤ x1) → ((¬ ((¬ x2 < (0 : Int32)) ∧ (¬ (9 : Int32) < x2)) → Q (.inr 2) m c n) ∧ ((¬ x2 < (0 : Int32)) ∧ (¬ (9 : Int32) < x2) → (((¬ x3 < (0 : Int32)) ∧ (¬ (3 : Int32) < x3) → (vp_in (((x2 * 16) + (x3 * 4)) + x1) 160 ∧ Q (.inl (some (pI (m.1 0 2 0 (ix (((x2 * 16) + (x3 * 4)) + x1)))))) m c n)) ∧ (¬ ((¬ x3 < (0 : Int32)) ∧ (¬ (3 : Int32) < x3)) → Q (.inr 2) m c n))))) ∧ (¬ ((¬ x1 < 0) ∧ (¬ (m.1 0 0 0 1) ≤ x1)) → Q (.inr 3) m c n))) : Wq g (d + 6) MX4_slot c n 0 [some (pO 10 8 0), some (pI x1), some (pI x2), some (pI x3)] [] m Q := by
  refine Wq.few (ls' := [some (pO 10 8 0), some (pI x1), some (pI x2), some (pI x3)]) ⟨rfl, ⟨rfl, ⟨rfl, ⟨rfl, trivial⟩⟩⟩⟩ ?_
  refine Wq.aload_n (t := 10) (r := 8) (j := 0) dX4_slot_0 rfl ?_
  refine Wq.getf (v := pO 0 0 0) dX4_slot_1 fl_X4_12 ⟨rfl, rfl, by decide⟩ rfl ?_
  refine Wq.iload_n (x := x1) dX4_slot_4 rfl ?_
  refine Wq.callVI (As := [pI x1]) dX4_slot_5 fX1_hasExaminer ml_X4_85 rfl (by decide) rfl (Nat.le_of_ble_eq_true rfl) (Nat.le_of_ble_eq_true rfl) (suX1_hasExaminer trivial) (fun x7 m9 e9 => ?_)
  obtain ⟨rfl, rfl⟩ := e9
  refine Wq.ifne (tgt := 21) dX4_slot_8 (by decide) (fun q1 => ?_) (fun q1 => ?_)
  · replace h := h.1 (bI_1 q1)
    refine Wq.iload_n (x := x2) dX4_slot_21 rfl ?_
    refine Wq.iconst (v := 0) dX4_slot_22 (by decide) ?_
    refine Wq.bipush (v := 9) dX4_slot_23 (by decide) ?_
    refine Wq.callSI (As := [pI x2, pI 0, pI 9]) dX4_slot_25 fX4_isFromTo ml_X4_90 rfl (Nat.le_of_ble_eq_true rfl) (Nat.le_of_ble_eq_true rfl) (suX4_isFromTo trivial) (fun x6 m9 e9 => ?_)
    obtain ⟨rfl, rfl⟩ := e9
    refine Wq.ifeq (tgt := 40) dX4_slot_28 (by decide) (fun q2 => ?_) (fun q2 => ?_)
    · replace h := h.1 (bI_0 q2)
      exact Wq.throw (E := 2) rfl dX4_slot_40 dX4_slot_43 dX4_slot_44 dX4_slot_46 dX4_slot_49 (List.mem_of_getElem? (i := 17) rfl) (by decide) h
    · replace h := h.2 (bI_1 q2)
      refine Wq.iload_n (x := x3) dX4_slot_31 rfl ?_
      refine Wq.iconst (v := 0) dX4_slot_32 (by decide) ?_
      refine Wq.iconst (v := 3) dX4_slot_33 (by decide) ?_
      refine Wq.callSI (As := [pI x3, pI 0, pI 3]) dX4_slot_34 fX4_isFromTo ml_X4_90 rfl (Nat.le_of_ble_eq_true rfl) (Nat.le_of_ble_eq_true rfl) (suX4_isFromTo trivial) (fun x5 m9 e9 => ?_)
      obtain ⟨rfl, rfl⟩ := e9
      refine Wq.ifne (tgt := 50) dX4_slot_37 (by decide) (fun q3 => ?_) (fun q3 => ?_)
      · replace h := h.1 (bI_1 q3)
        refine Wq.aload_n (t := 10) (r := 8) (j := 0) dX4_slot_50 rfl ?_
        refine Wq.getf (v := pO 0 0 0) dX4_slot_51 fl_X4_12 ⟨rfl, rfl, by decide⟩ rfl ?_
        refine Wq.getf (v := pO 2 0 0) dX4_slot_54 fl_X4_181 ⟨rfl, rfl, by decide⟩ rfl ?_
        refine Wq.iload_n (x := x1) dX4_slot_57 rfl ?_
        refine Wq.iload_n (x := x2) dX4_slot_58 rfl ?_
        refine Wq.iload_n (x := x3) dX4_slot_59 rfl ?_
        refine Wq.callSI (As := [pI x1, pI x2, pI x3]) dX4_slot_60 fX4_cellAt ml_X4_184 rfl (Nat.le_of_ble_eq_true rfl) (Nat.le_of_ble_eq_true rfl) (suX4_cellAt trivial) (fun x4 m9 e9 => ?_)
        obtain ⟨rfl, rfl⟩ := e9
        refine Wq.iald dX4_slot_63 rfl h.1 ?_
        replace h := h.2
        exact Wq.iret dX4_slot_64 (⟨_, rfl, rfl⟩) h
      · replace h := h.2 (bI_0 q3)
        exact Wq.throw (E := 2) rfl dX4_slot_40 dX4_slot_43 dX4_slot_44 dX4_slot_46 dX4_slot_49 (List.mem_of_getElem? (i := 17) rfl) (by decide) h
  · replace h := h.2 (bI_0 q1)
    exact Wq.throw (E := 3) rfl dX4_slot_11 dX4_slot_14 dX4_slot_15 dX4_slot_17 dX4_slot_20 (List.mem_of_getElem? (i := 5) rfl) (by decide) h
set_option maxHeartbeats 4000000 in
set_option maxRecDepth 20000 in
theorem sgX4_count {g : GG} {d : Nat} {c n : Nat} {m : PM} {Q : Ou → PM → Nat → Nat → Prop} {x1 : Int32} (h : (((¬ x1 < (0 : Int32)) ∧ (¬ (14 : Int32) < x1) → ((¬ x1 = 14 → Wp g (d + 5) MX1_number 0 [some (pO 0 0 0), some (pI x1)] [] m (cI fun r3 m4 => Q (.inl (some (pI r3))) m4 c n)) ∧ (x1 = 14 → Q (.inl (some (pI (m.1 8 10 0 3)))) m c n))) ∧ (¬ ((¬ x1 < (0 : Int32)) ∧ (¬ (14 : Int32) < x1)) → Q (.inr 2) m c n))) : Wq g (d + 6) MX4_count c n 0 [some (pO 10 8 0), some (pI x1)] [] m Q := by
  refine Wq.few (ls' := [some (pO 10 8 0), some (pI x1)]) ⟨rfl, ⟨rfl, trivial⟩⟩ ?_
  refine Wq.iload_n (x := x1) dX4_count_0 rfl ?_
  refine Wq.iconst (v := 0) dX4_count_1 (by decide) ?_
  refine Wq.bipush (v := 14) dX4_count_2 (by decide) ?_
  refine Wq.callSI (As := [pI x1, pI 0, pI 14]) dX4_count_4 fX4_isFromTo ml_X4_90 rfl (Nat.le_of_ble_eq_true rfl) (Nat.le_of_ble_eq_true rfl) (suX4_isFromTo trivial) (fun x5 m9 e9 => ?_)
  obtain ⟨rfl, rfl⟩ := e9
  refine Wq.ifne (tgt := 20) dX4_count_7 (by decide) (fun q1 => ?_) (fun q1 => ?_)
  · replace h := h.1 (bI_1 q1)
    refine Wq.iload_n (x := x1) dX4_count_20 rfl ?_
    refine Wq.bipush (v := 14) dX4_count_21 (by decide) ?_
    refine Wq.icmpne (tgt := 33) dX4_count_23 (by decide) (fun q2 => ?_) (fun q2 => ?_)
    · replace h := h.1 q2
      refine Wq.aload_n (t := 10) (r := 8) (j := 0) dX4_count_33 rfl ?_
      refine Wq.getf (v := pO 0 0 0) dX4_count_34 fl_X4_12 ⟨rfl, rfl, by decide⟩ rfl ?_
      refine Wq.iload_n (x := x1) dX4_count_37 rfl ?_
      refine Wq.callVI (As := [pI x1]) dX4_count_38 fX1_number ml_X4_190 rfl (by decide) rfl (Nat.le_of_ble_eq_true rfl) (Nat.le_of_ble_eq_true rfl) h (fun r3 m4 h => ?_)
      exact Wq.iret dX4_count_41 (⟨_, rfl, rfl⟩) h
    · replace h := h.2 q2
      refine Wq.aload_n (t := 10) (r := 8) (j := 0) dX4_count_26 rfl ?_
      refine Wq.getf (v := pI (m.1 8 10 0 3)) dX4_count_27 fl_X4_23 ⟨rfl, rfl, by decide⟩ rfl ?_
      refine Wq.goto (tgt := 41) dX4_count_30 (by decide) ?_
      exact Wq.iret dX4_count_41 (⟨_, rfl, rfl⟩) h
  · replace h := h.2 (bI_0 q1)
    exact Wq.throw (E := 2) rfl dX4_count_10 dX4_count_13 dX4_count_14 dX4_count_16 dX4_count_19 (List.mem_of_getElem? (i := 18) rfl) (by decide) h
set_option maxHeartbeats 4000000 in
set_option maxRecDepth 20000 in
theorem sgX4_setting {g : GG} {d : Nat} {c n : Nat} {m : PM} {Q : Ou → PM → Nat → Nat → Prop} {x1 : Int32} (h : (((¬ x1 < (0 : Int32)) ∧ (¬ (4 - 1) < x1) → (vp_in x1 4 ∧ Q (.inl (some (pI (m.1 0 1 0 (ix x1))))) m c n)) ∧ (¬ ((¬ x1 < (0 : Int32)) ∧ (¬ (4 - 1) < x1)) → Q (.inr 3) m c n))) : Wq g (d + 6) MX4_setting c n 0 [some (pO 10 8 0), some (pI x1)] [] m Q := by
  refine Wq.few (ls' := [some (pO 10 8 0), some (pI x1)]) ⟨rfl, ⟨rfl, trivial⟩⟩ ?_
  refine Wq.iload_n (x := x1) dX4_setting_0 rfl ?_
  refine Wq.callSI (As := [pI x1]) dX4_setting_1 fX4_isSetting ml_X4_121 rfl (Nat.le_of_ble_eq_true rfl) (Nat.le_of_ble_eq_true rfl) (suX4_isSetting trivial) (fun x2 m9 e9 => ?_)
  obtain ⟨rfl, rfl⟩ := e9
  refine Wq.ifne (tgt := 17) dX4_setting_4 (by decide) (fun q1 => ?_) (fun q1 => ?_)
  · replace h := h.1 (bI_1 q1)
    refine Wq.aload_n (t := 10) (r := 8) (j := 0) dX4_setting_17 rfl ?_
    refine Wq.getf (v := pO 0 0 0) dX4_setting_18 fl_X4_12 ⟨rfl, rfl, by decide⟩ rfl ?_
    refine Wq.getf (v := pO 1 0 0) dX4_setting_21 fl_X4_132 ⟨rfl, rfl, by decide⟩ rfl ?_
    refine Wq.iload_n (x := x1) dX4_setting_24 rfl ?_
    refine Wq.iald dX4_setting_25 rfl h.1 ?_
    replace h := h.2
    exact Wq.iret dX4_setting_26 (⟨_, rfl, rfl⟩) h
  · replace h := h.2 (bI_0 q1)
    exact Wq.throw (E := 3) rfl dX4_setting_7 dX4_setting_10 dX4_setting_11 dX4_setting_13 dX4_setting_16 (List.mem_of_getElem? (i := 9) rfl) (by decide) h
set_option maxHeartbeats 4000000 in
set_option maxRecDepth 20000 in
theorem sgX4_earliest {g : GG} {d : Nat} {c n : Nat} {m : PM} {Q : Ou → PM → Nat → Nat → Prop} {x1 : Int32} {x2 : Int32} (h : (((¬ x1 < 0) ∧ (¬ (m.1 0 0 0 2) ≤ x1) → (((¬ x2 < (0 : Int32)) ∧ (¬ (2 : Int32) < x2) → Wp g (d + 5) MX1_earliestCell 0 [some (pO 0 0 0), some (pI x1)] [] m (cI fun r3 m4 => Q (.inl (some (pI ((if ¬ r3 = (-1) then (if x2 = 0 then (r3 / 16) else (if x2 = 1 then (irm (r3 / 4) 4) else (irm r3 4))) else (-1)) : Int32)))) m4 c n)) ∧ (¬ ((¬ x2 < (0 : Int32)) ∧ (¬ (2 : Int32) < x2)) → Q (.inr 2) m c n))) ∧ (¬ ((¬ x1 < 0) ∧ (¬ (m.1 0 0 0 2) ≤ x1)) → Q (.inr 3) m c n))) : Wq g (d + 6) MX4_earliest c n 0 [some (pO 10 8 0), some (pI x1), some (pI x2)] [] m Q := by
  refine Wq.few (ls' := [some (pO 10 8 0), some (pI x1), some (pI x2)]) ⟨rfl, ⟨rfl, ⟨rfl, trivial⟩⟩⟩ ?_
  refine Wq.aload_n (t := 10) (r := 8) (j := 0) dX4_earliest_0 rfl ?_
  refine Wq.getf (v := pO 0 0 0) dX4_earliest_1 fl_X4_12 ⟨rfl, rfl, by decide⟩ rfl ?_
  refine Wq.iload_n (x := x1) dX4_earliest_4 rfl ?_
  refine Wq.callVI (As := [pI x1]) dX4_earliest_5 fX1_hasPupil ml_X4_59 rfl (by decide) rfl (Nat.le_of_ble_eq_true rfl) (Nat.le_of_ble_eq_true rfl) (suX1_hasPupil trivial) (fun x7 m9 e9 => ?_)
  obtain ⟨rfl, rfl⟩ := e9
  refine Wq.ifne (tgt := 21) dX4_earliest_8 (by decide) (fun q1 => ?_) (fun q1 => ?_)
  · replace h := h.1 (bI_1 q1)
    refine Wq.iload_n (x := x2) dX4_earliest_21 rfl ?_
    refine Wq.iconst (v := 0) dX4_earliest_22 (by decide) ?_
    refine Wq.iconst (v := 2) dX4_earliest_23 (by decide) ?_
    refine Wq.callSI (As := [pI x2, pI 0, pI 2]) dX4_earliest_24 fX4_isFromTo ml_X4_90 rfl (Nat.le_of_ble_eq_true rfl) (Nat.le_of_ble_eq_true rfl) (suX4_isFromTo trivial) (fun x6 m9 e9 => ?_)
    obtain ⟨rfl, rfl⟩ := e9
    refine Wq.ifne (tgt := 40) dX4_earliest_27 (by decide) (fun q2 => ?_) (fun q2 => ?_)
    · replace h := h.1 (bI_1 q2)
      refine Wq.aload_n (t := 10) (r := 8) (j := 0) dX4_earliest_40 rfl ?_
      refine Wq.getf (v := pO 0 0 0) dX4_earliest_41 fl_X4_12 ⟨rfl, rfl, by decide⟩ rfl ?_
      refine Wq.iload_n (x := x1) dX4_earliest_44 rfl ?_
      refine Wq.callVI (As := [pI x1]) dX4_earliest_45 fX1_earliestCell ml_X4_195 rfl (by decide) rfl (Nat.le_of_ble_eq_true rfl) (Nat.le_of_ble_eq_true rfl) h (fun r3 m4 h => ?_)
      refine Wq.iload_n (x := x2) dX4_earliest_48 rfl ?_
      refine Wq.callSI (As := [pI r3, pI x2]) dX4_earliest_49 fX4_partOfCell ml_X4_198 rfl (Nat.le_of_ble_eq_true rfl) (Nat.le_of_ble_eq_true rfl) (suX4_partOfCell trivial) (fun x5 m9 e9 => ?_)
      obtain ⟨rfl, rfl⟩ := e9
      exact Wq.iret dX4_earliest_52 (⟨_, rfl, rfl⟩) h
    · replace h := h.2 (bI_0 q2)
      exact Wq.throw (E := 2) rfl dX4_earliest_30 dX4_earliest_33 dX4_earliest_34 dX4_earliest_36 dX4_earliest_39 (List.mem_of_getElem? (i := 19) rfl) (by decide) h
  · replace h := h.2 (bI_0 q1)
    exact Wq.throw (E := 3) rfl dX4_earliest_11 dX4_earliest_14 dX4_earliest_15 dX4_earliest_17 dX4_earliest_20 (List.mem_of_getElem? (i := 2) rfl) (by decide) h
set_option maxHeartbeats 4000000 in
set_option maxRecDepth 20000 in
theorem sgX4_ifCancelled {g : GG} {d : Nat} {c n : Nat} {m : PM} {Q : Ou → PM → Nat → Nat → Prop} {x1 : Int32} {x2 : Int32} {x3 : Int32} (h : (((¬ x1 < 0) ∧ (¬ (m.1 0 0 0 1) ≤ x1) → ((¬ ((¬ x2 < (0 : Int32)) ∧ (¬ (9 : Int32) < x2)) → Q (.inr 2) m c n) ∧ ((¬ x2 < (0 : Int32)) ∧ (¬ (9 : Int32) < x2) → (((¬ x3 < (0 : Int32)) ∧ (¬ (2 : Int32) < x3) → Wp g (d + 5) MX1_copyFrom 0 [some (pO 0 1 0), some (pO 0 0 0)] [] m (cV fun m5 => Wp g (d + 5) MX1_cancelMorning 0 [some (pO 0 1 0), some (pI x1), some (pI x2)] [] m5 (cI fun r6 m7 => ((¬ x3 = 0 → Wq g (d + 6) MX4_ifCancelled c n 90 [some (pO 10 8 0), some (pI x1), some (pI x2), some (pI x3), none, some (pI 0), some (pI 1000), some (pI 0), none, none] [] m7 Q) ∧ (x3 = 0 → Q (.inl (some (pI r6))) m7 c n))))) ∧ (¬ ((¬ x3 < (0 : Int32)) ∧ (¬ (2 : Int32) < x3)) → Q (.inr 2) m c n))))) ∧ (¬ ((¬ x1 < 0) ∧ (¬ (m.1 0 0 0 1) ≤ x1)) → Q (.inr 3) m c n))) : Wq g (d + 6) MX4_ifCancelled c n 0 [some (pO 10 8 0), some (pI x1), some (pI x2), some (pI x3)] [] m Q := by
  refine Wq.few (ls' := [some (pO 10 8 0), some (pI x1), some (pI x2), some (pI x3), none, none, none, none, none, none]) ⟨rfl, ⟨rfl, ⟨rfl, ⟨rfl, trivial⟩⟩⟩⟩ ?_
  refine Wq.aload_n (t := 10) (r := 8) (j := 0) dX4_ifCancelled_0 rfl ?_
  refine Wq.getf (v := pO 0 0 0) dX4_ifCancelled_1 fl_X4_12 ⟨rfl, rfl, by decide⟩ rfl ?_
  refine Wq.iload_n (x := x1) dX4_ifCancelled_4 rfl ?_
  refine Wq.callVI (As := [pI x1]) dX4_ifCancelled_5 fX1_hasExaminer ml_X4_85 rfl (by decide) rfl (Nat.le_of_ble_eq_true rfl) (Nat.le_of_ble_eq_true rfl) (suX1_hasExaminer trivial) (fun x11 m9 e9 => ?_)
  obtain ⟨rfl, rfl⟩ := e9
  refine Wq.ifne (tgt := 21) dX4_ifCancelled_8 (by decide) (fun q1 => ?_) (fun q1 => ?_)
  · replace h := h.1 (bI_1 q1)
    refine Wq.iload_n (x := x2) dX4_ifCancelled_21 rfl ?_
    refine Wq.iconst (v := 0) dX4_ifCancelled_22 (by decide) ?_
    refine Wq.bipush (v := 9) dX4_ifCancelled_23 (by decide) ?_
    refine Wq.callSI (As := [pI x2, pI 0, pI 9]) dX4_ifCancelled_25 fX4_isFromTo ml_X4_90 rfl (Nat.le_of_ble_eq_true rfl) (Nat.le_of_ble_eq_true rfl) (suX4_isFromTo trivial) (fun x10 m9 e9 => ?_)
    obtain ⟨rfl, rfl⟩ := e9
    refine Wq.ifeq (tgt := 40) dX4_ifCancelled_28 (by decide) (fun q2 => ?_) (fun q2 => ?_)
    · replace h := h.1 (bI_0 q2)
      exact Wq.throw (E := 2) rfl dX4_ifCancelled_40 dX4_ifCancelled_43 dX4_ifCancelled_44 dX4_ifCancelled_46 dX4_ifCancelled_49 (List.mem_of_getElem? (i := 20) rfl) (by decide) h
    · replace h := h.2 (bI_1 q2)
      refine Wq.iload_n (x := x3) dX4_ifCancelled_31 rfl ?_
      refine Wq.iconst (v := 0) dX4_ifCancelled_32 (by decide) ?_
      refine Wq.iconst (v := 2) dX4_ifCancelled_33 (by decide) ?_
      refine Wq.callSI (As := [pI x3, pI 0, pI 2]) dX4_ifCancelled_34 fX4_isFromTo ml_X4_90 rfl (Nat.le_of_ble_eq_true rfl) (Nat.le_of_ble_eq_true rfl) (suX4_isFromTo trivial) (fun x9 m9 e9 => ?_)
      obtain ⟨rfl, rfl⟩ := e9
      refine Wq.ifne (tgt := 50) dX4_ifCancelled_37 (by decide) (fun q3 => ?_) (fun q3 => ?_)
      · replace h := h.1 (bI_1 q3)
        refine Wq.aload_n (t := 10) (r := 8) (j := 0) dX4_ifCancelled_50 rfl ?_
        refine Wq.getf (v := pO 0 1 0) dX4_ifCancelled_51 fl_X4_16 ⟨rfl, rfl, by decide⟩ rfl ?_
        refine Wq.aload_n (t := 10) (r := 8) (j := 0) dX4_ifCancelled_54 rfl ?_
        refine Wq.getf (v := pO 0 0 0) dX4_ifCancelled_55 fl_X4_12 ⟨rfl, rfl, by decide⟩ rfl ?_
        refine Wq.callVV (As := [pO 0 0 0]) dX4_ifCancelled_58 fX1_copyFrom ml_X4_165 rfl (by decide) rfl (Nat.le_of_ble_eq_true rfl) (Nat.le_of_ble_eq_true rfl) h (fun m5 h => ?_)
        refine Wq.aload_n (t := 10) (r := 8) (j := 0) dX4_ifCancelled_61 rfl ?_
        refine Wq.getf (v := pO 0 1 0) dX4_ifCancelled_62 fl_X4_16 ⟨rfl, rfl, by decide⟩ rfl ?_
        refine Wq.iload_n (x := x1) dX4_ifCancelled_65 rfl ?_
        refine Wq.iload_n (x := x2) dX4_ifCancelled_66 rfl ?_
        refine Wq.callVI (As := [pI x1, pI x2]) dX4_ifCancelled_67 fX1_cancelMorning ml_X4_99 rfl (by decide) rfl (Nat.le_of_ble_eq_true rfl) (Nat.le_of_ble_eq_true rfl) h (fun r6 m7 h => ?_)
        refine Wq.istore (ls2 := [some (pO 10 8 0), some (pI x1), some (pI x2), some (pI x3), some (pI r6), none, none, none, none, none]) dX4_ifCancelled_70 (by decide) rfl ?_
        refine Wq.iload_n (x := x3) dX4_ifCancelled_72 rfl ?_
        refine Wq.ifne (tgt := 79) dX4_ifCancelled_73 (by decide) (fun q8 => ?_) (fun q8 => ?_)
        · replace h := h.1 q8
          refine Wq.iconst (v := 0) dX4_ifCancelled_79 (by decide) ?_
          refine Wq.istore (ls2 := [some (pO 10 8 0), some (pI x1), some (pI x2), some (pI x3), some (pI r6), some (pI 0), none, none, none, none]) dX4_ifCancelled_80 (by decide) rfl ?_
          refine Wq.sipush (v := 1000) dX4_ifCancelled_82 (by decide) ?_
          refine Wq.istore (ls2 := [some (pO 10 8 0), some (pI x1), some (pI x2), some (pI x3), some (pI r6), some (pI 0), some (pI 1000), none, none, none]) dX4_ifCancelled_85 (by decide) rfl ?_
          refine Wq.iconst (v := 0) dX4_ifCancelled_87 (by decide) ?_
          refine Wq.istore (ls2 := [some (pO 10 8 0), some (pI x1), some (pI x2), some (pI x3), some (pI r6), some (pI 0), some (pI 1000), some (pI 0), none, none]) dX4_ifCancelled_88 (by decide) rfl ?_
          refine Wq.few (ls' := [some (pO 10 8 0), some (pI x1), some (pI x2), some (pI x3), none, some (pI 0), some (pI 1000), some (pI 0), none, none]) ⟨rfl, ⟨rfl, ⟨rfl, ⟨rfl, ⟨rfl, ⟨rfl, ⟨rfl, trivial⟩⟩⟩⟩⟩⟩⟩ ?_
          exact h
        · replace h := h.2 q8
          refine Wq.iload (x := r6) dX4_ifCancelled_76 rfl ?_
          exact Wq.iret dX4_ifCancelled_78 (⟨_, rfl, rfl⟩) h
      · replace h := h.2 (bI_0 q3)
        exact Wq.throw (E := 2) rfl dX4_ifCancelled_40 dX4_ifCancelled_43 dX4_ifCancelled_44 dX4_ifCancelled_46 dX4_ifCancelled_49 (List.mem_of_getElem? (i := 20) rfl) (by decide) h
  · replace h := h.2 (bI_0 q1)
    exact Wq.throw (E := 3) rfl dX4_ifCancelled_11 dX4_ifCancelled_14 dX4_ifCancelled_15 dX4_ifCancelled_17 dX4_ifCancelled_20 (List.mem_of_getElem? (i := 5) rfl) (by decide) h
set_option maxHeartbeats 4000000 in
set_option maxRecDepth 20000 in
theorem sgX4_ifCancelled_90 {g : GG} {d : Nat} {c n : Nat} {m : PM} {Q : Ou → PM → Nat → Nat → Prop} {x1 : Int32} {x2 : Int32} {x3 : Int32} {x5 : Int32} {x6 : Int32} {x7 : Int32} (h : ((2 ≤ x7 → ((¬ x3 = 1 → Q (.inl (some (pI x6))) m c n) ∧ (x3 = 1 → Q (.inl (some (pI x5))) m c n))) ∧ (¬ 2 ≤ x7 → (vp_in (((x2 * 16) + (x7 * 4)) + x1) 160 ∧ ((¬ ((¬ (m.1 0 2 0 (ix (((x2 * 16) + (x7 * 4)) + x1))) < 0) ∧ (¬ (m.1 0 0 0 2) ≤ (m.1 0 2 0 (ix (((x2 * 16) + (x7 * 4)) + x1))))) → Wq g (d + 6) MX4_ifCancelled c n 90 [some (pO 10 8 0), some (pI x1), some (pI x2), some (pI x3), none, some (pI x5), some (pI x6), some (pI (x7 + 1)), none, none] [] m Q) ∧ ((¬ (m.1 0 2 0 (ix (((x2 * 16) + (x7 * 4)) + x1))) < 0) ∧ (¬ (m.1 0 0 0 2) ≤ (m.1 0 2 0 (ix (((x2 * 16) + (x7 * 4)) + x1)))) → Wp g (d + 5) MX1_cellOf 0 [some (pO 0 1 0), some (pI (m.1 0 2 0 (ix (((x2 * 16) + (x7 * 4)) + x1))))] [] m (cI fun r4 m5 => ((¬ ((if ¬ r4 = (-1) then (if (0 : Int32) = 0 then (r4 / 16) else (if (0 : Int32) = 1 then (irm (r4 / 4) 4) else (irm r4 4))) else (-1)) : Int32) = (-1) → ((¬ ((if ¬ r4 = (-1) then (if (0 : Int32) = 0 then (r4 / 16) else (if (0 : Int32) = 1 then (irm (r4 / 4) 4) else (irm r4 4))) else (-1)) : Int32) = (-1) → Wq g (d + 6) MX4_ifCancelled c n 90 [some (pO 10 8 0), some (pI x1), some (pI x2), some (pI x3), none, some (pI (x5 + 0)), some (pI (x6 + (((if ¬ r4 = (-1) then (if (0 : Int32) = 0 then (r4 / 16) else (if (0 : Int32) = 1 then (irm (r4 / 4) 4) else (irm r4 4))) else (-1)) : Int32) - x2))), some (pI (x7 + 1)), none, none] [] m5 Q) ∧ (((if ¬ r4 = (-1) then (if (0 : Int32) = 0 then (r4 / 16) else (if (0 : Int32) = 1 then (irm (r4 / 4) 4) else (irm r4 4))) else (-1)) : Int32) = (-1) → Wq g (d + 6) MX4_ifCancelled c n 90 [some (pO 10 8 0), some (pI x1), some (pI x2), some (pI x3), none, some (pI (x5 + 0)), some (pI (x6 + 0)), some (pI (x7 + 1)), none, none] [] m5 Q))) ∧ (((if ¬ r4 = (-1) then (if (0 : Int32) = 0 then (r4 / 16) else (if (0 : Int32) = 1 then (irm (r4 / 4) 4) else (irm r4 4))) else (-1)) : Int32) = (-1) → ((¬ ((if ¬ r4 = (-1) then (if (0 : Int32) = 0 then (r4 / 16) else (if (0 : Int32) = 1 then (irm (r4 / 4) 4) else (irm r4 4))) else (-1)) : Int32) = (-1) → Wq g (d + 6) MX4_ifCancelled c n 90 [some (pO 10 8 0), some (pI x1), some (pI x2), some (pI x3), none, some (pI (x5 + 1)), some (pI (x6 + (((if ¬ r4 = (-1) then (if (0 : Int32) = 0 then (r4 / 16) else (if (0 : Int32) = 1 then (irm (r4 / 4) 4) else (irm r4 4))) else (-1)) : Int32) - x2))), some (pI (x7 + 1)), none, none] [] m5 Q) ∧ (((if ¬ r4 = (-1) then (if (0 : Int32) = 0 then (r4 / 16) else (if (0 : Int32) = 1 then (irm (r4 / 4) 4) else (irm r4 4))) else (-1)) : Int32) = (-1) → Wq g (d + 6) MX4_ifCancelled c n 90 [some (pO 10 8 0), some (pI x1), some (pI x2), some (pI x3), none, some (pI (x5 + 1)), some (pI (x6 + 0)), some (pI (x7 + 1)), none, none] [] m5 Q))))))))))) : Wq g (d + 6) MX4_ifCancelled c n 90 [some (pO 10 8 0), some (pI x1), some (pI x2), some (pI x3), none, some (pI x5), some (pI x6), some (pI x7), none, none] [] m Q := by
  refine Wq.iload (x := x7) dX4_ifCancelled_90 rfl ?_
  refine Wq.iconst (v := 2) dX4_ifCancelled_92 (by decide) ?_
  refine Wq.icmpge (tgt := 181) dX4_ifCancelled_93 (by decide) (fun q1 => ?_) (fun q1 => ?_)
  · replace h := h.1 q1
    refine Wq.iload_n (x := x3) dX4_ifCancelled_181 rfl ?_
    refine Wq.iconst (v := 1) dX4_ifCancelled_182 (by decide) ?_
    refine Wq.icmpne (tgt := 191) dX4_ifCancelled_183 (by decide) (fun q2 => ?_) (fun q2 => ?_)
    · replace h := h.1 q2
      refine Wq.iload (x := x6) dX4_ifCancelled_191 rfl ?_
      exact Wq.iret dX4_ifCancelled_193 (⟨_, rfl, rfl⟩) h
    · replace h := h.2 q2
      refine Wq.iload (x := x5) dX4_ifCancelled_186 rfl ?_
      refine Wq.goto (tgt := 193) dX4_ifCancelled_188 (by decide) ?_
      exact Wq.iret dX4_ifCancelled_193 (⟨_, rfl, rfl⟩) h
  · replace h := h.2 q1
    refine Wq.aload_n (t := 10) (r := 8) (j := 0) dX4_ifCancelled_96 rfl ?_
    refine Wq.getf (v := pO 0 0 0) dX4_ifCancelled_97 fl_X4_12 ⟨rfl, rfl, by decide⟩ rfl ?_
    refine Wq.getf (v := pO 2 0 0) dX4_ifCancelled_100 fl_X4_181 ⟨rfl, rfl, by decide⟩ rfl ?_
    refine Wq.iload_n (x := x1) dX4_ifCancelled_103 rfl ?_
    refine Wq.iload_n (x := x2) dX4_ifCancelled_104 rfl ?_
    refine Wq.iload (x := x7) dX4_ifCancelled_105 rfl ?_
    refine Wq.callSI (As := [pI x1, pI x2, pI x7]) dX4_ifCancelled_107 fX4_cellAt ml_X4_184 rfl (Nat.le_of_ble_eq_true rfl) (Nat.le_of_ble_eq_true rfl) (suX4_cellAt trivial) (fun x11 m9 e9 => ?_)
    obtain ⟨rfl, rfl⟩ := e9
    refine Wq.iald dX4_ifCancelled_110 rfl h.1 ?_
    replace h := h.2
    refine Wq.istore (ls2 := [some (pO 10 8 0), some (pI x1), some (pI x2), some (pI x3), none, some (pI x5), some (pI x6), some (pI x7), some (pI (m.1 0 2 0 (ix (((x2 * 16) + (x7 * 4)) + x1)))), none]) dX4_ifCancelled_111 (by decide) rfl ?_
    refine Wq.aload_n (t := 10) (r := 8) (j := 0) dX4_ifCancelled_113 rfl ?_
    refine Wq.getf (v := pO 0 0 0) dX4_ifCancelled_114 fl_X4_12 ⟨rfl, rfl, by decide⟩ rfl ?_
    refine Wq.iload (x := (m.1 0 2 0 (ix (((x2 * 16) + (x7 * 4)) + x1)))) dX4_ifCancelled_117 rfl ?_
    refine Wq.callVI (As := [pI (m.1 0 2 0 (ix (((x2 * 16) + (x7 * 4)) + x1)))]) dX4_ifCancelled_119 fX1_hasPupil ml_X4_59 rfl (by decide) rfl (Nat.le_of_ble_eq_true rfl) (Nat.le_of_ble_eq_true rfl) (suX1_hasPupil trivial) (fun x10 m9 e9 => ?_)
    obtain ⟨rfl, rfl⟩ := e9
    refine Wq.ifeq (tgt := 175) dX4_ifCancelled_122 (by decide) (fun q3 => ?_) (fun q3 => ?_)
    · replace h := h.1 (bI_0 q3)
      refine Wq.iinc (x := x7) (ls2 := [some (pO 10 8 0), some (pI x1), some (pI x2), some (pI x3), none, some (pI x5), some (pI x6), some (pI (x7 + 1)), some (pI (m.1 0 2 0 (ix (((x2 * 16) + (x7 * 4)) + x1)))), none]) dX4_ifCancelled_175 rfl (by decide) rfl ?_
      refine Wq.goto (tgt := 90) dX4_ifCancelled_178 (by decide) ?_
      refine Wq.few (ls' := [some (pO 10 8 0), some (pI x1), some (pI x2), some (pI x3), none, some (pI x5), some (pI x6), some (pI (x7 + 1)), none, none]) ⟨rfl, ⟨rfl, ⟨rfl, ⟨rfl, ⟨rfl, ⟨rfl, ⟨rfl, trivial⟩⟩⟩⟩⟩⟩⟩ ?_
      exact h
    · replace h := h.2 (bI_1 q3)
      refine Wq.aload_n (t := 10) (r := 8) (j := 0) dX4_ifCancelled_125 rfl ?_
      refine Wq.getf (v := pO 0 1 0) dX4_ifCancelled_126 fl_X4_16 ⟨rfl, rfl, by decide⟩ rfl ?_
      refine Wq.iload (x := (m.1 0 2 0 (ix (((x2 * 16) + (x7 * 4)) + x1)))) dX4_ifCancelled_129 rfl ?_
      refine Wq.callVI (As := [pI (m.1 0 2 0 (ix (((x2 * 16) + (x7 * 4)) + x1)))]) dX4_ifCancelled_131 fX1_cellOf ml_X4_203 rfl (by decide) rfl (Nat.le_of_ble_eq_true rfl) (Nat.le_of_ble_eq_true rfl) h (fun r4 m5 h => ?_)
      refine Wq.iconst (v := 0) dX4_ifCancelled_134 (by decide) ?_
      refine Wq.callSI (As := [pI r4, pI 0]) dX4_ifCancelled_135 fX4_partOfCell ml_X4_198 rfl (Nat.le_of_ble_eq_true rfl) (Nat.le_of_ble_eq_true rfl) (suX4_partOfCell trivial) (fun x9 m9 e9 => ?_)
      obtain ⟨rfl, rfl⟩ := e9
      refine Wq.istore (ls2 := [some (pO 10 8 0), some (pI x1), some (pI x2), some (pI x3), none, some (pI x5), some (pI x6), some (pI x7), some (pI (m.1 0 2 0 (ix (((x2 * 16) + (x7 * 4)) + x1)))), some (pI ((if ¬ r4 = (-1) then (if (0 : Int32) = 0 then (r4 / 16) else (if (0 : Int32) = 1 then (irm (r4 / 4) 4) else (irm r4 4))) else (-1)) : Int32))]) dX4_ifCancelled_138 (by decide) rfl ?_
      refine Wq.iload (x := x5) dX4_ifCancelled_140 rfl ?_
      refine Wq.iload (x := ((if ¬ r4 = (-1) then (if (0 : Int32) = 0 then (r4 / 16) else (if (0 : Int32) = 1 then (irm (r4 / 4) 4) else (irm r4 4))) else (-1)) : Int32)) dX4_ifCancelled_142 rfl ?_
      refine Wq.iconst (v := (-1)) dX4_ifCancelled_144 (by decide) ?_
      refine Wq.icmpne (tgt := 152) dX4_ifCancelled_145 (by decide) (fun q6 => ?_) (fun q6 => ?_)
      · replace h := h.1 q6
        refine Wq.iconst (v := 0) dX4_ifCancelled_152 (by decide) ?_
        refine Wq.iadd dX4_ifCancelled_153 ?_
        refine Wq.istore (ls2 := [some (pO 10 8 0), some (pI x1), some (pI x2), some (pI x3), none, some (pI (x5 + 0)), some (pI x6), some (pI x7), some (pI (m.1 0 2 0 (ix (((x2 * 16) + (x7 * 4)) + x1)))), some (pI ((if ¬ r4 = (-1) then (if (0 : Int32) = 0 then (r4 / 16) else (if (0 : Int32) = 1 then (irm (r4 / 4) 4) else (irm r4 4))) else (-1)) : Int32))]) dX4_ifCancelled_154 (by decide) rfl ?_
        refine Wq.iload (x := x6) dX4_ifCancelled_156 rfl ?_
        refine Wq.iload (x := ((if ¬ r4 = (-1) then (if (0 : Int32) = 0 then (r4 / 16) else (if (0 : Int32) = 1 then (irm (r4 / 4) 4) else (irm r4 4))) else (-1)) : Int32)) dX4_ifCancelled_158 rfl ?_
        refine Wq.iconst (v := (-1)) dX4_ifCancelled_160 (by decide) ?_
        refine Wq.icmpne (tgt := 168) dX4_ifCancelled_161 (by decide) (fun q7 => ?_) (fun q7 => ?_)
        · replace h := h.1 q7
          refine Wq.iload (x := ((if ¬ r4 = (-1) then (if (0 : Int32) = 0 then (r4 / 16) else (if (0 : Int32) = 1 then (irm (r4 / 4) 4) else (irm r4 4))) else (-1)) : Int32)) dX4_ifCancelled_168 rfl ?_
          refine Wq.iload_n (x := x2) dX4_ifCancelled_170 rfl ?_
          refine Wq.isub dX4_ifCancelled_171 ?_
          refine Wq.iadd dX4_ifCancelled_172 ?_
          refine Wq.istore (ls2 := [some (pO 10 8 0), some (pI x1), some (pI x2), some (pI x3), none, some (pI (x5 + 0)), some (pI (x6 + (((if ¬ r4 = (-1) then (if (0 : Int32) = 0 then (r4 / 16) else (if (0 : Int32) = 1 then (irm (r4 / 4) 4) else (irm r4 4))) else (-1)) : Int32) - x2))), some (pI x7), some (pI (m.1 0 2 0 (ix (((x2 * 16) + (x7 * 4)) + x1)))), some (pI ((if ¬ r4 = (-1) then (if (0 : Int32) = 0 then (r4 / 16) else (if (0 : Int32) = 1 then (irm (r4 / 4) 4) else (irm r4 4))) else (-1)) : Int32))]) dX4_ifCancelled_173 (by decide) rfl ?_
          refine Wq.iinc (x := x7) (ls2 := [some (pO 10 8 0), some (pI x1), some (pI x2), some (pI x3), none, some (pI (x5 + 0)), some (pI (x6 + (((if ¬ r4 = (-1) then (if (0 : Int32) = 0 then (r4 / 16) else (if (0 : Int32) = 1 then (irm (r4 / 4) 4) else (irm r4 4))) else (-1)) : Int32) - x2))), some (pI (x7 + 1)), some (pI (m.1 0 2 0 (ix (((x2 * 16) + (x7 * 4)) + x1)))), some (pI ((if ¬ r4 = (-1) then (if (0 : Int32) = 0 then (r4 / 16) else (if (0 : Int32) = 1 then (irm (r4 / 4) 4) else (irm r4 4))) else (-1)) : Int32))]) dX4_ifCancelled_175 rfl (by decide) rfl ?_
          refine Wq.goto (tgt := 90) dX4_ifCancelled_178 (by decide) ?_
          refine Wq.few (ls' := [some (pO 10 8 0), some (pI x1), some (pI x2), some (pI x3), none, some (pI (x5 + 0)), some (pI (x6 + (((if ¬ r4 = (-1) then (if (0 : Int32) = 0 then (r4 / 16) else (if (0 : Int32) = 1 then (irm (r4 / 4) 4) else (irm r4 4))) else (-1)) : Int32) - x2))), some (pI (x7 + 1)), none, none]) ⟨rfl, ⟨rfl, ⟨rfl, ⟨rfl, ⟨rfl, ⟨rfl, ⟨rfl, trivial⟩⟩⟩⟩⟩⟩⟩ ?_
          exact h
        · replace h := h.2 q7
          refine Wq.iconst (v := 0) dX4_ifCancelled_164 (by decide) ?_
          refine Wq.goto (tgt := 172) dX4_ifCancelled_165 (by decide) ?_
          refine Wq.iadd dX4_ifCancelled_172 ?_
          refine Wq.istore (ls2 := [some (pO 10 8 0), some (pI x1), some (pI x2), some (pI x3), none, some (pI (x5 + 0)), some (pI (x6 + 0)), some (pI x7), some (pI (m.1 0 2 0 (ix (((x2 * 16) + (x7 * 4)) + x1)))), some (pI ((if ¬ r4 = (-1) then (if (0 : Int32) = 0 then (r4 / 16) else (if (0 : Int32) = 1 then (irm (r4 / 4) 4) else (irm r4 4))) else (-1)) : Int32))]) dX4_ifCancelled_173 (by decide) rfl ?_
          refine Wq.iinc (x := x7) (ls2 := [some (pO 10 8 0), some (pI x1), some (pI x2), some (pI x3), none, some (pI (x5 + 0)), some (pI (x6 + 0)), some (pI (x7 + 1)), some (pI (m.1 0 2 0 (ix (((x2 * 16) + (x7 * 4)) + x1)))), some (pI ((if ¬ r4 = (-1) then (if (0 : Int32) = 0 then (r4 / 16) else (if (0 : Int32) = 1 then (irm (r4 / 4) 4) else (irm r4 4))) else (-1)) : Int32))]) dX4_ifCancelled_175 rfl (by decide) rfl ?_
          refine Wq.goto (tgt := 90) dX4_ifCancelled_178 (by decide) ?_
          refine Wq.few (ls' := [some (pO 10 8 0), some (pI x1), some (pI x2), some (pI x3), none, some (pI (x5 + 0)), some (pI (x6 + 0)), some (pI (x7 + 1)), none, none]) ⟨rfl, ⟨rfl, ⟨rfl, ⟨rfl, ⟨rfl, ⟨rfl, ⟨rfl, trivial⟩⟩⟩⟩⟩⟩⟩ ?_
          exact h
      · replace h := h.2 q6
        refine Wq.iconst (v := 1) dX4_ifCancelled_148 (by decide) ?_
        refine Wq.goto (tgt := 153) dX4_ifCancelled_149 (by decide) ?_
        refine Wq.iadd dX4_ifCancelled_153 ?_
        refine Wq.istore (ls2 := [some (pO 10 8 0), some (pI x1), some (pI x2), some (pI x3), none, some (pI (x5 + 1)), some (pI x6), some (pI x7), some (pI (m.1 0 2 0 (ix (((x2 * 16) + (x7 * 4)) + x1)))), some (pI ((if ¬ r4 = (-1) then (if (0 : Int32) = 0 then (r4 / 16) else (if (0 : Int32) = 1 then (irm (r4 / 4) 4) else (irm r4 4))) else (-1)) : Int32))]) dX4_ifCancelled_154 (by decide) rfl ?_
        refine Wq.iload (x := x6) dX4_ifCancelled_156 rfl ?_
        refine Wq.iload (x := ((if ¬ r4 = (-1) then (if (0 : Int32) = 0 then (r4 / 16) else (if (0 : Int32) = 1 then (irm (r4 / 4) 4) else (irm r4 4))) else (-1)) : Int32)) dX4_ifCancelled_158 rfl ?_
        refine Wq.iconst (v := (-1)) dX4_ifCancelled_160 (by decide) ?_
        refine Wq.icmpne (tgt := 168) dX4_ifCancelled_161 (by decide) (fun q8 => ?_) (fun q8 => ?_)
        · replace h := h.1 q8
          refine Wq.iload (x := ((if ¬ r4 = (-1) then (if (0 : Int32) = 0 then (r4 / 16) else (if (0 : Int32) = 1 then (irm (r4 / 4) 4) else (irm r4 4))) else (-1)) : Int32)) dX4_ifCancelled_168 rfl ?_
          refine Wq.iload_n (x := x2) dX4_ifCancelled_170 rfl ?_
          refine Wq.isub dX4_ifCancelled_171 ?_
          refine Wq.iadd dX4_ifCancelled_172 ?_
          refine Wq.istore (ls2 := [some (pO 10 8 0), some (pI x1), some (pI x2), some (pI x3), none, some (pI (x5 + 1)), some (pI (x6 + (((if ¬ r4 = (-1) then (if (0 : Int32) = 0 then (r4 / 16) else (if (0 : Int32) = 1 then (irm (r4 / 4) 4) else (irm r4 4))) else (-1)) : Int32) - x2))), some (pI x7), some (pI (m.1 0 2 0 (ix (((x2 * 16) + (x7 * 4)) + x1)))), some (pI ((if ¬ r4 = (-1) then (if (0 : Int32) = 0 then (r4 / 16) else (if (0 : Int32) = 1 then (irm (r4 / 4) 4) else (irm r4 4))) else (-1)) : Int32))]) dX4_ifCancelled_173 (by decide) rfl ?_
          refine Wq.iinc (x := x7) (ls2 := [some (pO 10 8 0), some (pI x1), some (pI x2), some (pI x3), none, some (pI (x5 + 1)), some (pI (x6 + (((if ¬ r4 = (-1) then (if (0 : Int32) = 0 then (r4 / 16) else (if (0 : Int32) = 1 then (irm (r4 / 4) 4) else (irm r4 4))) else (-1)) : Int32) - x2))), some (pI (x7 + 1)), some (pI (m.1 0 2 0 (ix (((x2 * 16) + (x7 * 4)) + x1)))), some (pI ((if ¬ r4 = (-1) then (if (0 : Int32) = 0 then (r4 / 16) else (if (0 : Int32) = 1 then (irm (r4 / 4) 4) else (irm r4 4))) else (-1)) : Int32))]) dX4_ifCancelled_175 rfl (by decide) rfl ?_
          refine Wq.goto (tgt := 90) dX4_ifCancelled_178 (by decide) ?_
          refine Wq.few (ls' := [some (pO 10 8 0), some (pI x1), some (pI x2), some (pI x3), none, some (pI (x5 + 1)), some (pI (x6 + (((if ¬ r4 = (-1) then (if (0 : Int32) = 0 then (r4 / 16) else (if (0 : Int32) = 1 then (irm (r4 / 4) 4) else (irm r4 4))) else (-1)) : Int32) - x2))), some (pI (x7 + 1)), none, none]) ⟨rfl, ⟨rfl, ⟨rfl, ⟨rfl, ⟨rfl, ⟨rfl, ⟨rfl, trivial⟩⟩⟩⟩⟩⟩⟩ ?_
          exact h
        · replace h := h.2 q8
          refine Wq.iconst (v := 0) dX4_ifCancelled_164 (by decide) ?_
          refine Wq.goto (tgt := 172) dX4_ifCancelled_165 (by decide) ?_
          refine Wq.iadd dX4_ifCancelled_172 ?_
          refine Wq.istore (ls2 := [some (pO 10 8 0), some (pI x1), some (pI x2), some (pI x3), none, some (pI (x5 + 1)), some (pI (x6 + 0)), some (pI x7), some (pI (m.1 0 2 0 (ix (((x2 * 16) + (x7 * 4)) + x1)))), some (pI ((if ¬ r4 = (-1) then (if (0 : Int32) = 0 then (r4 / 16) else (if (0 : Int32) = 1 then (irm (r4 / 4) 4) else (irm r4 4))) else (-1)) : Int32))]) dX4_ifCancelled_173 (by decide) rfl ?_
          refine Wq.iinc (x := x7) (ls2 := [some (pO 10 8 0), some (pI x1), some (pI x2), some (pI x3), none, some (pI (x5 + 1)), some (pI (x6 + 0)), some (pI (x7 + 1)), some (pI (m.1 0 2 0 (ix (((x2 * 16) + (x7 * 4)) + x1)))), some (pI ((if ¬ r4 = (-1) then (if (0 : Int32) = 0 then (r4 / 16) else (if (0 : Int32) = 1 then (irm (r4 / 4) 4) else (irm r4 4))) else (-1)) : Int32))]) dX4_ifCancelled_175 rfl (by decide) rfl ?_
          refine Wq.goto (tgt := 90) dX4_ifCancelled_178 (by decide) ?_
          refine Wq.few (ls' := [some (pO 10 8 0), some (pI x1), some (pI x2), some (pI x3), none, some (pI (x5 + 1)), some (pI (x6 + 0)), some (pI (x7 + 1)), none, none]) ⟨rfl, ⟨rfl, ⟨rfl, ⟨rfl, ⟨rfl, ⟨rfl, ⟨rfl, trivial⟩⟩⟩⟩⟩⟩⟩ ?_
          exact h
set_option maxHeartbeats 4000000 in
set_option maxRecDepth 20000 in
theorem sgX4_ifTested {g : GG} {d : Nat} {c n : Nat} {m : PM} {Q : Ou → PM → Nat → Nat → Prop} {x1 : Int32} {x2 : Int32} (h : ((¬ ((¬ x1 < 0) ∧ (¬ (m.1 0 0 0 2) ≤ x1)) → Q (.inr 3) m c n) ∧ ((¬ x1 < 0) ∧ (¬ (m.1 0 0 0 2) ≤ x1) → (((¬ x2 < 0) ∧ (¬ (m.1 0 0 0 1) ≤ x2) → Wp g (d + 5) MX1_routeFor 0 [some (pO 0 0 0), some (pI x1), some (pI x2)] [] m (cI fun r3 m4 => Q (.inl (some (pI r3))) m4 c n)) ∧ (¬ ((¬ x2 < 0) ∧ (¬ (m.1 0 0 0 1) ≤ x2)) → Q (.inr 3) m c n))))) : Wq g (d + 6) MX4_ifTested c n 0 [some (pO 10 8 0), some (pI x1), some (pI x2)] [] m Q := by
  refine Wq.few (ls' := [some (pO 10 8 0), some (pI x1), some (pI x2)]) ⟨rfl, ⟨rfl, ⟨rfl, trivial⟩⟩⟩ ?_
  refine Wq.aload_n (t := 10) (r := 8) (j := 0) dX4_ifTested_0 rfl ?_
  refine Wq.getf (v := pO 0 0 0) dX4_ifTested_1 fl_X4_12 ⟨rfl, rfl, by decide⟩ rfl ?_
  refine Wq.iload_n (x := x1) dX4_ifTested_4 rfl ?_
  refine Wq.callVI (As := [pI x1]) dX4_ifTested_5 fX1_hasPupil ml_X4_59 rfl (by decide) rfl (Nat.le_of_ble_eq_true rfl) (Nat.le_of_ble_eq_true rfl) (suX1_hasPupil trivial) (fun x6 m9 e9 => ?_)
  obtain ⟨rfl, rfl⟩ := e9
  refine Wq.ifeq (tgt := 22) dX4_ifTested_8 (by decide) (fun q1 => ?_) (fun q1 => ?_)
  · replace h := h.1 (bI_0 q1)
    exact Wq.throw (E := 3) rfl dX4_ifTested_22 dX4_ifTested_25 dX4_ifTested_26 dX4_ifTested_28 dX4_ifTested_31 (List.mem_of_getElem? (i := 21) rfl) (by decide) h
  · replace h := h.2 (bI_1 q1)
    refine Wq.aload_n (t := 10) (r := 8) (j := 0) dX4_ifTested_11 rfl ?_
    refine Wq.getf (v := pO 0 0 0) dX4_ifTested_12 fl_X4_12 ⟨rfl, rfl, by decide⟩ rfl ?_
    refine Wq.iload_n (x := x2) dX4_ifTested_15 rfl ?_
    refine Wq.callVI (As := [pI x2]) dX4_ifTested_16 fX1_hasExaminer ml_X4_85 rfl (by decide) rfl (Nat.le_of_ble_eq_true rfl) (Nat.le_of_ble_eq_true rfl) (suX1_hasExaminer trivial) (fun x5 m9 e9 => ?_)
    obtain ⟨rfl, rfl⟩ := e9
    refine Wq.ifne (tgt := 32) dX4_ifTested_19 (by decide) (fun q2 => ?_) (fun q2 => ?_)
    · replace h := h.1 (bI_1 q2)
      refine Wq.aload_n (t := 10) (r := 8) (j := 0) dX4_ifTested_32 rfl ?_
      refine Wq.getf (v := pO 0 0 0) dX4_ifTested_33 fl_X4_12 ⟨rfl, rfl, by decide⟩ rfl ?_
      refine Wq.iload_n (x := x1) dX4_ifTested_36 rfl ?_
      refine Wq.iload_n (x := x2) dX4_ifTested_37 rfl ?_
      refine Wq.callVI (As := [pI x1, pI x2]) dX4_ifTested_38 fX1_routeFor ml_X4_208 rfl (by decide) rfl (Nat.le_of_ble_eq_true rfl) (Nat.le_of_ble_eq_true rfl) h (fun r3 m4 h => ?_)
      exact Wq.iret dX4_ifTested_41 (⟨_, rfl, rfl⟩) h
    · replace h := h.2 (bI_0 q2)
      exact Wq.throw (E := 3) rfl dX4_ifTested_22 dX4_ifTested_25 dX4_ifTested_26 dX4_ifTested_28 dX4_ifTested_31 (List.mem_of_getElem? (i := 21) rfl) (by decide) h
set_option maxHeartbeats 4000000 in
set_option maxRecDepth 20000 in
theorem sgX4_couldHave {g : GG} {d : Nat} {c n : Nat} {m : PM} {Q : Ou → PM → Nat → Nat → Prop} {x1 : Int32} (h : (((¬ x1 < (0 : Int32)) ∧ (¬ (9 : Int32) < x1) → Wp g (d + 5) MX1_mostWithSlotsOf 0 [some (pO 0 0 0), some (pI x1)] [] m (cI fun r2 m3 => Q (.inl (some (pI r2))) m3 c n)) ∧ (¬ ((¬ x1 < (0 : Int32)) ∧ (¬ (9 : Int32) < x1)) → Q (.inr 2) m c n))) : Wq g (d + 6) MX4_couldHave c n 0 [some (pO 10 8 0), some (pI x1)] [] m Q := by
  refine Wq.few (ls' := [some (pO 10 8 0), some (pI x1)]) ⟨rfl, ⟨rfl, trivial⟩⟩ ?_
  refine Wq.iload_n (x := x1) dX4_couldHave_0 rfl ?_
  refine Wq.iconst (v := 0) dX4_couldHave_1 (by decide) ?_
  refine Wq.bipush (v := 9) dX4_couldHave_2 (by decide) ?_
  refine Wq.callSI (As := [pI x1, pI 0, pI 9]) dX4_couldHave_4 fX4_isFromTo ml_X4_90 rfl (Nat.le_of_ble_eq_true rfl) (Nat.le_of_ble_eq_true rfl) (suX4_isFromTo trivial) (fun x4 m9 e9 => ?_)
  obtain ⟨rfl, rfl⟩ := e9
  refine Wq.ifne (tgt := 20) dX4_couldHave_7 (by decide) (fun q1 => ?_) (fun q1 => ?_)
  · replace h := h.1 (bI_1 q1)
    refine Wq.aload_n (t := 10) (r := 8) (j := 0) dX4_couldHave_20 rfl ?_
    refine Wq.getf (v := pO 0 0 0) dX4_couldHave_21 fl_X4_12 ⟨rfl, rfl, by decide⟩ rfl ?_
    refine Wq.iload_n (x := x1) dX4_couldHave_24 rfl ?_
    refine Wq.callVI (As := [pI x1]) dX4_couldHave_25 fX1_mostWithSlotsOf ml_X4_211 rfl (by decide) rfl (Nat.le_of_ble_eq_true rfl) (Nat.le_of_ble_eq_true rfl) h (fun r2 m3 h => ?_)
    exact Wq.iret dX4_couldHave_28 (⟨_, rfl, rfl⟩) h
  · replace h := h.2 (bI_0 q1)
    exact Wq.throw (E := 2) rfl dX4_couldHave_10 dX4_couldHave_13 dX4_couldHave_14 dX4_couldHave_16 dX4_couldHave_19 (List.mem_of_getElem? (i := 6) rfl) (by decide) h
