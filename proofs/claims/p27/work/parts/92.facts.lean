/-! WHAT IS KNOWN AT THE LAW'S ENTRY -/
section ST
variable {args : Array Value} {s : State}
theorem nr (hgv : (Jvm.Cond.and given_1 narrow_1).before args s = true) (i : Nat) {w : Cond} (h : (flatC (Jvm.Cond.and given_1 narrow_1))[i]? = some w) : w.before args s = true := flat_of_before _ hgv w (List.mem_of_getElem? h)
theorem wd (hts : ∀ w ∈ lw_tbl, w.before args s = true) (i : Nat) {w : Cond} (h : lw_tbl[i]? = some w) : w.before args s = true := hts w (List.mem_of_getElem? h)
theorem st_A (s : State) : ∀ a : Nat, a < s.heap.size → ¬ (fun q : Nat => s.heap.size ≤ q) a := fun _ h => Nat.not_le.mpr h
theorem st_first (hts : ∀ w ∈ lw_tbl, w.before args s = true) (hgv : (Jvm.Cond.and given_1 narrow_1).before args s = true) : ∃ t : Nat, va_T .int t 4 fsT (fun q : Nat => s.heap.size ≤ q) s s.heap ∧ va_Z "TestSlots" "FIRST_SETTINGS" "[I" (.ref t) (fun q : Nat => s.heap.size ≤ q) s s.heap := by
  obtain ⟨t, ht, hT⟩ := va_Tof (args := args) (s := s) (tm := .static "TestSlots" "FIRST_SETTINGS" "[I") (ty := .int) (N := 4) (f := fsT) (A := fun q : Nat => s.heap.size ≤ q) (by decide) (nr hgv 5 (by decide +kernel)) (va_eqt (nr hgv 6 (by decide +kernel))) (fun j hj => by
    match j, hj with
    | 0, _ => exact va_eqt (nr hgv 7 (by decide +kernel))
    | 1, _ => exact va_eqt (nr hgv 8 (by decide +kernel))
    | 2, _ => exact va_eqt (nr hgv 9 (by decide +kernel))
    | 3, _ => exact va_eqt (nr hgv 10 (by decide +kernel))
    | j + 4, hj => exact absurd hj (by omega)) (st_A s)
  exact ⟨t, hT, va_Zref (wd hts 33 (by decide +kernel)) (wd hts 4 (by decide +kernel)) ht (st_A s)⟩
theorem st_high (hts : ∀ w ∈ lw_tbl, w.before args s = true) (hgv : (Jvm.Cond.and given_1 narrow_1).before args s = true) : ∃ t : Nat, va_T .int t 4 hsT (fun q : Nat => s.heap.size ≤ q) s s.heap ∧ va_Z "TestSlots" "HIGHEST_SETTINGS" "[I" (.ref t) (fun q : Nat => s.heap.size ≤ q) s s.heap := by
  obtain ⟨t, ht, hT⟩ := va_Tof (args := args) (s := s) (tm := .static "TestSlots" "HIGHEST_SETTINGS" "[I") (ty := .int) (N := 4) (f := hsT) (A := fun q : Nat => s.heap.size ≤ q) (by decide) (nr hgv 14 (by decide +kernel)) (va_eqt (nr hgv 15 (by decide +kernel))) (fun j hj => by
    match j, hj with
    | 0, _ => exact va_eqt (nr hgv 16 (by decide +kernel))
    | 1, _ => exact va_eqt (nr hgv 17 (by decide +kernel))
    | 2, _ => exact va_eqt (nr hgv 18 (by decide +kernel))
    | 3, _ => exact va_eqt (nr hgv 19 (by decide +kernel))
    | j + 4, hj => exact absurd hj (by omega)) (st_A s)
  exact ⟨t, hT, va_Zref (wd hts 524 (by decide +kernel)) (wd hts 4 (by decide +kernel)) ht (st_A s)⟩
theorem st_nest (hts : ∀ w ∈ lw_tbl, w.before args s = true) : ∀ z ∈ nestW, va_Nw (.methodLinkNest z.1 z.2.1 z.2.2 "TestSlots") s := List.forall_mem_cons.mpr ⟨va_Nw.of (A := args) rfl (wd hts 309 (by decide +kernel)), List.forall_mem_cons.mpr ⟨va_Nw.of (A := args) rfl (wd hts 380 (by decide +kernel)), List.forall_mem_cons.mpr ⟨va_Nw.of (A := args) rfl (wd hts 316 (by decide +kernel)), List.forall_mem_cons.mpr ⟨va_Nw.of (A := args) rfl (wd hts 286 (by decide +kernel)), List.forall_mem_cons.mpr ⟨va_Nw.of (A := args) rfl (wd hts 45 (by decide +kernel)), List.forall_mem_cons.mpr ⟨va_Nw.of (A := args) rfl (wd hts 88 (by decide +kernel)), List.forall_mem_cons.mpr ⟨va_Nw.of (A := args) rfl (wd hts 143 (by decide +kernel)), (fun _ h => absurd h List.not_mem_nil)⟩⟩⟩⟩⟩⟩⟩
theorem st_gt (hts : ∀ w ∈ lw_tbl, w.before args s = true) : ∀ w ∈ gTbl, w.before args s = true := fun w h => hts w (List.mem_filter.mp h).1
theorem st_arr {ty : FieldType} (h : (Cond.arrayClass ty).before args s = true) (hR : ∀ cA, s.vm.findClass ("[" ++ ty.toString) = some cA → va_RA s cA ty) : ∃ cA : ClassId, ArrOfT s cA ty ∧ va_RA s cA ty := by
  obtain ⟨cA, kA, comp, h1, h2, h3⟩ := Cond.arrayClass_spec h
  exact ⟨cA, fun n z => ⟨fun k h => (by cases h), kA, h2, comp, h3⟩, hR cA h1⟩
theorem st_aro {C : String} (h : (Cond.arrayOver (.object C)).before args s = true) : ∃ cA : ClassId, ArrOfT s cA (.object C) ∧ va_RA s cA (.object C) := by
  obtain ⟨comp, c, k, h1, h2, h3, h4, h5⟩ := Cond.arrayOver_spec h
  exact ⟨c, fun n z => ⟨fun k h => (by cases h), k, h3, comp, h4⟩, k, comp, h3, h4, h1, h5⟩
theorem st_K (hts : ∀ w ∈ lw_tbl, w.before args s = true) : ∃ (D : va_G) (gc : Nat → ClassId), va_K D vwCl [(gc 0, .int), (gc 1, .int), (gc 2, .int), (gc 3, .object "TestSlots$Pupil"), (gc 4, .object "TestSlots$Examiner"), (gc 5, .object "TestSlots$Office")] s := by
  obtain ⟨c0, i0, k0⟩ := u_known (C := RX0) (T := TX0) (N := 3) (n := 3) (st_gt hts) inX0 (wd hts 87 (by decide +kernel))
  obtain ⟨c1, i1, k1⟩ := u_known (C := RX1) (T := TX1) (N := 10) (n := 10) (st_gt hts) inX1 (wd hts 27 (by decide +kernel))
  obtain ⟨c2, i2, k2⟩ := u_known (C := RX2) (T := TX2) (N := 7) (n := 7) (st_gt hts) inX2 (wd hts 142 (by decide +kernel))
  obtain ⟨c3, i3, k3⟩ := u_known (C := RX3) (T := TX3) (N := 9) (n := 9) (st_gt hts) inX3 (wd hts 44 (by decide +kernel))
  obtain ⟨c4, i4, k4⟩ := u_known (C := RX4) (T := TX4) (N := 5) (n := 5) (st_gt hts) inX4 (wd hts 19 (by decide +kernel))
  obtain ⟨a0, r0⟩ := st_arr (ty := .int) (wd hts 86 (by decide +kernel)) (fun cA h => h)
  obtain ⟨a3, r3⟩ := st_aro (C := "TestSlots$Pupil") (wd hts 35 (by decide +kernel))
  obtain ⟨a4, r4⟩ := st_aro (C := "TestSlots$Examiner") (wd hts 37 (by decide +kernel))
  obtain ⟨a5, r5⟩ := st_aro (C := "TestSlots$Office") (wd hts 140 (by decide +kernel))
  refine ⟨(fun k => match k with | 0 => c0 | 1 => c1 | 2 => c2 | 3 => c3 | _ => c4, fun k => match k with | 0 => i0 | 1 => i1 | 2 => i2 | 3 => i3 | _ => i4), fun k => match k with | 0 => a0 | 1 => a0 | 2 => a0 | 3 => a3 | 4 => a4 | _ => a5, fun c q hq => ?_, fun k q hq => ?_⟩
  · match c, hq with
    | 0, hq => cases hq; exact k0
    | 1, hq => cases hq; exact k1
    | 2, hq => cases hq; exact k2
    | 3, hq => cases hq; exact k3
    | 4, hq => cases hq; exact k4
    | c + 5, hq => simp at hq
  · match k, hq with
    | 0, hq => cases hq; exact r0
    | 1, hq => cases hq; exact r0
    | 2, hq => cases hq; exact r0
    | 3, hq => cases hq; exact r3
    | 4, hq => cases hq; exact r4
    | 5, hq => cases hq; exact r5
    | k + 6, hq => simp at hq
end ST
