/-! WHAT IS KNOWN AT THE LAW'S ENTRY -/
section ST
variable {args : Array Value} {s : State}
theorem nr (hgv : (Jvm.Cond.and given_1 narrow_1).before args s = true) (i : Nat) {w : Cond} (h : (flatC (Jvm.Cond.and given_1 narrow_1))[i]? = some w) : w.before args s = true := flat_of_before _ hgv w (List.mem_of_getElem? h)
theorem wd (hts : ∀ w ∈ lw_tbl, w.before args s = true) (i : Nat) {w : Cond} (h : lw_tbl[i]? = some w) : w.before args s = true := hts w (List.mem_of_getElem? h)
theorem st_A (s : State) : ∀ a : Nat, a < s.heap.size → ¬ (fun q : Nat => s.heap.size ≤ q) a := fun _ h => Nat.not_le.mpr h
theorem st_first (hts : ∀ w ∈ lw_tbl, w.before args s = true) (hgv : (Jvm.Cond.and given_1 narrow_1).before args s = true) : ∃ t : Nat, va_T .int t 4 fsT (fun q : Nat => s.heap.size ≤ q) s s.heap ∧ va_Z "TestSlots" "FIRST_SETTINGS" "[I" (.ref t) (fun q : Nat => s.heap.size ≤ q) s s.heap := by
  obtain ⟨t, ht, hT⟩ := va_Tof (args := args) (s := s) (tm := .static "TestSlots" "FIRST_SETTINGS" "[I") (ty := .int) (N := 4) (f := fsT) (A := fun q : Nat => s.heap.size ≤ q) (by decide) (nr hgv 5 (by decide +kernel)) (va_eqt (nr hgv 6 (by decide +kernel))) (fun j hj => by
    match j, hj with
    | 0, _ => exact va_eqt (nr hgv 7 (by decide +kernel))
    | 1, _ => exact va_eqt (nr hgv 8 (by decide +kernel))
    | 2, _ => exact va_eqt (nr hgv 9 (by decide +kernel))
    | 3, _ => exact va_eqt (nr hgv 10 (by decide +kernel))
    | j + 4, hj => exact absurd hj (by omega)) (st_A s)
  exact ⟨t, hT, va_Zref (wd hts 82 (by decide +kernel)) (wd hts 48 (by decide +kernel)) ht (st_A s)⟩
theorem st_high (hts : ∀ w ∈ lw_tbl, w.before args s = true) (hgv : (Jvm.Cond.and given_1 narrow_1).before args s = true) : ∃ t : Nat, va_T .int t 4 hsT (fun q : Nat => s.heap.size ≤ q) s s.heap ∧ va_Z "TestSlots" "HIGHEST_SETTINGS" "[I" (.ref t) (fun q : Nat => s.heap.size ≤ q) s s.heap := by
  obtain ⟨t, ht, hT⟩ := va_Tof (args := args) (s := s) (tm := .static "TestSlots" "HIGHEST_SETTINGS" "[I") (ty := .int) (N := 4) (f := hsT) (A := fun q : Nat => s.heap.size ≤ q) (by decide) (nr hgv 19 (by decide +kernel)) (va_eqt (nr hgv 20 (by decide +kernel))) (fun j hj => by
    match j, hj with
    | 0, _ => exact va_eqt (nr hgv 21 (by decide +kernel))
    | 1, _ => exact va_eqt (nr hgv 22 (by decide +kernel))
    | 2, _ => exact va_eqt (nr hgv 23 (by decide +kernel))
    | 3, _ => exact va_eqt (nr hgv 24 (by decide +kernel))
    | j + 4, hj => exact absurd hj (by omega)) (st_A s)
  exact ⟨t, hT, va_Zref (wd hts 784 (by decide +kernel)) (wd hts 48 (by decide +kernel)) ht (st_A s)⟩
theorem st_thr (hts : ∀ w ∈ lw_tbl, w.before args s = true) (hgv : (Jvm.Cond.and given_1 narrow_1).before args s = true) : vx_Zq Bundle.tN "UNASSIGNED_STACK" Bundle.steD (fun q : Nat => s.heap.size ≤ q) s s.heap ∧ vx_Zq Bundle.tN "SUPPRESSED_SENTINEL" Bundle.listD (fun q : Nat => s.heap.size ≤ q) s s.heap :=
  ⟨vx_Zqof (wd hts 390 (by decide +kernel)) (wd hts 56 (by decide +kernel)) (nr hgv 16 (by decide +kernel)) (st_A s), vx_Zqof (wd hts 392 (by decide +kernel)) (wd hts 56 (by decide +kernel)) (nr hgv 17 (by decide +kernel)) (st_A s)⟩
theorem st_cs (hts : ∀ w ∈ lw_tbl, w.before args s = true) (hgv : (Jvm.Cond.and given_1 narrow_1).before args s = true) : va_Z "java/lang/String" "COMPACT_STRINGS" "Z" (.int 1) (fun q : Nat => s.heap.size ≤ q) s s.heap ∧ va_Zq "jdk/internal/util/Preconditions" "SIOOBE_FORMATTER" "Ljava/util/function/BiFunction;" (fun q : Nat => s.heap.size ≤ q) s s.heap :=
  ⟨va_Zof (wd hts 279 (by decide +kernel)) (wd hts 63 (by decide +kernel)) (va_eqi (nr hgv 11 (by decide +kernel))) (st_A s), va_Zqof (wd hts 287 (by decide +kernel)) (wd hts 65 (by decide +kernel)) (nr hgv 12 (by decide +kernel)) (st_A s)⟩
def Str1 (s : State) (args : Array Value) (i : Nat) (q : Nat × Nat) : Prop := (Term.string "TestSlots$OrderText" (wdI.getD i 0)).eval args s none [] s = some (.ref q.1) ∧ va_O "java/lang/String" q.1 (fun q : Nat => s.heap.size ≤ q) s s.heap ∧ va_OF "java/lang/String" "coder" "B" (.int 0) q.1 (fun q : Nat => s.heap.size ≤ q) s s.heap ∧ va_OF "java/lang/String" "value" "[B" (.ref q.2) q.1 (fun q : Nat => s.heap.size ≤ q) s s.heap ∧ va_T .byte q.2 (wdL.getD i 0) (fun j => .int ((wdB.getD i []).getD j 0)) (fun q : Nat => s.heap.size ≤ q) s s.heap
theorem st_str1 {i : Nat} (hN : wdL.getD i 0 < 2 ^ 31) (hex : (Cond.exactly (.string "TestSlots$OrderText" (wdI.getD i 0)) "java/lang/String").before args s = true) (hco : (Cond.eq (.field (.string "TestSlots$OrderText" (wdI.getD i 0)) "java/lang/String" "coder" "B") (.int 0)).before args s = true) (har : (Cond.arrayOf (.field (.string "TestSlots$OrderText" (wdI.getD i 0)) "java/lang/String" "value" "[B") .byte).before args s = true) (hle : (Cond.eq (.length (.field (.string "TestSlots$OrderText" (wdI.getD i 0)) "java/lang/String" "value" "[B")) (.int (Int32.ofNat (wdL.getD i 0)))).before args s = true) (hel : ∀ j : Nat, j < wdL.getD i 0 → (Cond.eq (.elem (.field (.string "TestSlots$OrderText" (wdI.getD i 0)) "java/lang/String" "value" "[B") (.int (Int32.ofNat j))) (.int ((wdB.getD i []).getD j 0))).before args s = true) : ∃ q, Str1 s args i q := by
  obtain ⟨a, c, cA, kA, q1, q2, q3, q4, q5, q6, -⟩ := Cond.exactly_spec hex
  obtain ⟨t, ht, hT⟩ := va_Tof (f := fun j => .int ((wdB.getD i []).getD j 0)) (A := fun q : Nat => s.heap.size ≤ q) hN har (va_eqt hle) (fun j hj => va_eqt (hel j hj)) (st_A s)
  exact ⟨(a, t), q1, ⟨cA, q3, q5, by rw [q6]; exact q2, st_A s a (Array.getElem?_eq_some_iff.mp q3).1⟩, vk_OFof q1 (va_eqt hco) (st_A s), vk_OFof q1 ht (st_A s), hT⟩
theorem st_w0 (hgv : (Jvm.Cond.and given_1 narrow_1).before args s = true) : ∃ q, Str1 s args 0 q := by
  refine st_str1 (i := 0) (by decide) (nr hgv 79 (by decide +kernel)) (nr hgv 80 (by decide +kernel)) (nr hgv 81 (by decide +kernel)) (nr hgv 82 (by decide +kernel)) (fun j hj => ?_)
  match j, hj with
  | 0, _ => exact (nr hgv 83 (by decide +kernel))
  | 1, _ => exact (nr hgv 84 (by decide +kernel))
  | 2, _ => exact (nr hgv 85 (by decide +kernel))
  | j + 3, hj => exact absurd hj (by show ¬ j + 3 < 3; omega)
theorem st_w1 (hgv : (Jvm.Cond.and given_1 narrow_1).before args s = true) : ∃ q, Str1 s args 1 q := by
  refine st_str1 (i := 1) (by decide) (nr hgv 86 (by decide +kernel)) (nr hgv 87 (by decide +kernel)) (nr hgv 88 (by decide +kernel)) (nr hgv 89 (by decide +kernel)) (fun j hj => ?_)
  match j, hj with
  | 0, _ => exact (nr hgv 90 (by decide +kernel))
  | 1, _ => exact (nr hgv 91 (by decide +kernel))
  | 2, _ => exact (nr hgv 92 (by decide +kernel))
  | 3, _ => exact (nr hgv 93 (by decide +kernel))
  | j + 4, hj => exact absurd hj (by show ¬ j + 4 < 4; omega)
theorem st_w2 (hgv : (Jvm.Cond.and given_1 narrow_1).before args s = true) : ∃ q, Str1 s args 2 q := by
  refine st_str1 (i := 2) (by decide) (nr hgv 94 (by decide +kernel)) (nr hgv 95 (by decide +kernel)) (nr hgv 96 (by decide +kernel)) (nr hgv 97 (by decide +kernel)) (fun j hj => ?_)
  match j, hj with
  | 0, _ => exact (nr hgv 98 (by decide +kernel))
  | 1, _ => exact (nr hgv 99 (by decide +kernel))
  | 2, _ => exact (nr hgv 100 (by decide +kernel))
  | 3, _ => exact (nr hgv 101 (by decide +kernel))
  | j + 4, hj => exact absurd hj (by show ¬ j + 4 < 4; omega)
theorem st_w3 (hgv : (Jvm.Cond.and given_1 narrow_1).before args s = true) : ∃ q, Str1 s args 3 q := by
  refine st_str1 (i := 3) (by decide) (nr hgv 102 (by decide +kernel)) (nr hgv 103 (by decide +kernel)) (nr hgv 104 (by decide +kernel)) (nr hgv 105 (by decide +kernel)) (fun j hj => ?_)
  match j, hj with
  | 0, _ => exact (nr hgv 106 (by decide +kernel))
  | 1, _ => exact (nr hgv 107 (by decide +kernel))
  | 2, _ => exact (nr hgv 108 (by decide +kernel))
  | 3, _ => exact (nr hgv 109 (by decide +kernel))
  | j + 4, hj => exact absurd hj (by show ¬ j + 4 < 4; omega)
theorem st_w4 (hgv : (Jvm.Cond.and given_1 narrow_1).before args s = true) : ∃ q, Str1 s args 4 q := by
  refine st_str1 (i := 4) (by decide) (nr hgv 110 (by decide +kernel)) (nr hgv 111 (by decide +kernel)) (nr hgv 112 (by decide +kernel)) (nr hgv 113 (by decide +kernel)) (fun j hj => ?_)
  match j, hj with
  | 0, _ => exact (nr hgv 114 (by decide +kernel))
  | 1, _ => exact (nr hgv 115 (by decide +kernel))
  | 2, _ => exact (nr hgv 116 (by decide +kernel))
  | j + 3, hj => exact absurd hj (by show ¬ j + 3 < 3; omega)
theorem st_w5 (hgv : (Jvm.Cond.and given_1 narrow_1).before args s = true) : ∃ q, Str1 s args 5 q := by
  refine st_str1 (i := 5) (by decide) (nr hgv 117 (by decide +kernel)) (nr hgv 118 (by decide +kernel)) (nr hgv 119 (by decide +kernel)) (nr hgv 120 (by decide +kernel)) (fun j hj => ?_)
  match j, hj with
  | 0, _ => exact (nr hgv 121 (by decide +kernel))
  | 1, _ => exact (nr hgv 122 (by decide +kernel))
  | 2, _ => exact (nr hgv 123 (by decide +kernel))
  | 3, _ => exact (nr hgv 124 (by decide +kernel))
  | j + 4, hj => exact absurd hj (by show ¬ j + 4 < 4; omega)
theorem st_strs (hgv : (Jvm.Cond.and given_1 narrow_1).before args s = true) : ∃ adK adV : Nat → Nat, vk_S 6 wdL wdB adK adV (fun q : Nat => s.heap.size ≤ q) s s.heap ∧ ∀ i : Nat, i < 6 → (Term.string "TestSlots$OrderText" (wdI.getD i 0)).eval args s none [] s = some (.ref (adK i)) := by
  obtain ⟨ad, had⟩ : ∃ ad : Nat → Nat × Nat, ∀ i, i < 6 → Str1 s args i (ad i) := by
    obtain ⟨q0, h0⟩ := st_w0 (args := args) (s := s) hgv
    obtain ⟨q1, h1⟩ := st_w1 (args := args) (s := s) hgv
    obtain ⟨q2, h2⟩ := st_w2 (args := args) (s := s) hgv
    obtain ⟨q3, h3⟩ := st_w3 (args := args) (s := s) hgv
    obtain ⟨q4, h4⟩ := st_w4 (args := args) (s := s) hgv
    obtain ⟨q5, h5⟩ := st_w5 (args := args) (s := s) hgv
    refine ⟨fun i => match i with | 0 => q0 | 1 => q1 | 2 => q2 | 3 => q3 | 4 => q4 | _ => q5, fun i hi => ?_⟩
    have : i = 0 ∨ i = 1 ∨ i = 2 ∨ i = 3 ∨ i = 4 ∨ i = 5 := by omega
    rcases this with rfl | rfl | rfl | rfl | rfl | rfl
    · exact h0
    · exact h1
    · exact h2
    · exact h3
    · exact h4
    · exact h5
  refine ⟨fun i => (ad i).1, fun i => (ad i).2, ⟨fun i hi => (had i hi).2, fun i j hi hj e => ?_⟩, fun i hi => (had i hi).1⟩
  obtain ⟨-, -, -, ⟨cf, k, fi, f, cell, a1, a2, a3, a4, a5, a6⟩, ⟨c1, b1, b2, b3, b4, b5, b6, b7⟩⟩ := had i hi
  obtain ⟨-, -, -, ⟨cf', k', fi', f', cell', a1', a2', a3', a4', a5', a6'⟩, ⟨c1', b1', b2', b3', b4', b5', b6', b7'⟩⟩ := had j hj
  have e : (ad i).1 = (ad j).1 := e
  rw [e] at a3
  cases a1.symm.trans a1'
  cases a3.symm.trans a3'
  have ev : (ad i).2 = (ad j).2 := by
    have := a5.symm.trans a5'
    simpa using this
  rw [ev] at b1
  cases b1.symm.trans b1'
  have hp : ∀ i, i < 6 → 0 < wdL.getD i 0 := by decide
  have h0 := (b6 0 (hp i hi)).symm.trans (b6' 0 (hp j hj))
  have h0' : (wdB.getD i []).getD 0 0 = (wdB.getD j []).getD 0 0 := by simpa using h0
  have hinj : ∀ i, i < 6 → ∀ j, j < 6 → (wdB.getD i []).getD 0 0 = (wdB.getD j []).getD 0 0 → i = j := by decide
  exact hinj i hi j hj h0'
theorem st_sx {k : Nat} {own tx : String} (hex : (Cond.exactly (.string own k) "java/lang/String").before args s = true) (hw : (Cond.stringRef own k tx).before args s = true) : ∃ sa : Nat, vk_R own k tx sa s := by
  obtain ⟨a, _, _, _, q1, -⟩ := Cond.exactly_spec hex
  exact ⟨a, vk_R.of hw q1⟩
theorem st_x0 (hts : ∀ w ∈ lw_tbl, w.before args s = true) (hgv : (Jvm.Cond.and given_1 narrow_1).before args s = true) : ∃ sa : Nat, vk_R "TestSlots" (39, "there are 4 examiners").1 (39, "there are 4 examiners").2 sa s := st_sx (nr hgv 384 (by decide +kernel)) (wd hts 662 (by decide +kernel))
theorem st_x1 (hts : ∀ w ∈ lw_tbl, w.before args s = true) (hgv : (Jvm.Cond.and given_1 narrow_1).before args s = true) : ∃ sa : Nat, vk_R "TestSlots" (54, "there are 12 pupils").1 (54, "there are 12 pupils").2 sa s := st_sx (nr hgv 409 (by decide +kernel)) (wd hts 692 (by decide +kernel))
theorem st_x2 (hts : ∀ w ∈ lw_tbl, w.before args s = true) (hgv : (Jvm.Cond.and given_1 narrow_1).before args s = true) : ∃ sa : Nat, vk_R "TestSlots" (65, "no such pupil").1 (65, "no such pupil").2 sa s := st_sx (nr hgv 148 (by decide +kernel)) (wd hts 489 (by decide +kernel))
theorem st_x3 (hts : ∀ w ∈ lw_tbl, w.before args s = true) (hgv : (Jvm.Cond.and given_1 narrow_1).before args s = true) : ∃ sa : Nat, vk_R "TestSlots" (71, "the pupil is not idle").1 (71, "the pupil is not idle").2 sa s := st_sx (nr hgv 432 (by decide +kernel)) (wd hts 709 (by decide +kernel))
theorem st_x4 (hts : ∀ w ∈ lw_tbl, w.before args s = true) (hgv : (Jvm.Cond.and given_1 narrow_1).before args s = true) : ∃ sa : Nat, vk_R "TestSlots" (80, "the pupil has no slot, and does not wait").1 (80, "the pupil has no slot, and does not wait").2 sa s := st_sx (nr hgv 457 (by decide +kernel)) (wd hts 725 (by decide +kernel))
theorem st_x5 (hts : ∀ w ∈ lw_tbl, w.before args s = true) (hgv : (Jvm.Cond.and given_1 narrow_1).before args s = true) : ∃ sa : Nat, vk_R "TestSlots" (88, "no such examiner").1 (88, "no such examiner").2 sa s := st_sx (nr hgv 210 (by decide +kernel)) (wd hts 551 (by decide +kernel))
theorem st_x6 (hts : ∀ w ∈ lw_tbl, w.before args s = true) (hgv : (Jvm.Cond.and given_1 narrow_1).before args s = true) : ∃ sa : Nat, vk_R "TestSlots" (96, "days is out of range").1 (96, "days is out of range").2 sa s := st_sx (nr hgv 360 (by decide +kernel)) (wd hts 615 (by decide +kernel))
theorem st_x7 (hts : ∀ w ∈ lw_tbl, w.before args s = true) (hgv : (Jvm.Cond.and given_1 narrow_1).before args s = true) : ∃ sa : Nat, vk_R "TestSlots" (106, "the pupil has no slot of today").1 (106, "the pupil has no slot of today").2 sa s := st_sx (nr hgv 501 (by decide +kernel)) (wd hts 749 (by decide +kernel))
theorem st_x8 (hts : ∀ w ∈ lw_tbl, w.before args s = true) (hgv : (Jvm.Cond.and given_1 narrow_1).before args s = true) : ∃ sa : Nat, vk_R "TestSlots" (116, "the day would be above 9999").1 (116, "the day would be above 9999").2 sa s := st_sx (nr hgv 535 (by decide +kernel)) (wd hts 766 (by decide +kernel))
theorem st_x9 (hts : ∀ w ∈ lw_tbl, w.before args s = true) (hgv : (Jvm.Cond.and given_1 narrow_1).before args s = true) : ∃ sa : Nat, vk_R "TestSlots" (124, "no such setting").1 (124, "no such setting").2 sa s := st_sx (nr hgv 566 (by decide +kernel)) (wd hts 782 (by decide +kernel))
theorem st_x10 (hts : ∀ w ∈ lw_tbl, w.before args s = true) (hgv : (Jvm.Cond.and given_1 narrow_1).before args s = true) : ∃ sa : Nat, vk_R "TestSlots" (130, "value is out of range").1 (130, "value is out of range").2 sa s := st_sx (nr hgv 585 (by decide +kernel)) (wd hts 785 (by decide +kernel))
theorem st_x11 (hts : ∀ w ∈ lw_tbl, w.before args s = true) (hgv : (Jvm.Cond.and given_1 narrow_1).before args s = true) : ∃ sa : Nat, vk_R "TestSlots" (135, "code is not 33 to 126").1 (135, "code is not 33 to 126").2 sa s := st_sx (nr hgv 610 (by decide +kernel)) (wd hts 793 (by decide +kernel))
theorem st_x12 (hts : ∀ w ∈ lw_tbl, w.before args s = true) (hgv : (Jvm.Cond.and given_1 narrow_1).before args s = true) : ∃ sa : Nat, vk_R "TestSlots" (140, "the buffer has 60 characters").1 (140, "the buffer has 60 characters").2 sa s := st_sx (nr hgv 635 (by decide +kernel)) (wd hts 798 (by decide +kernel))
theorem st_x13 (hts : ∀ w ∈ lw_tbl, w.before args s = true) (hgv : (Jvm.Cond.and given_1 narrow_1).before args s = true) : ∃ sa : Nat, vk_R "TestSlots" (155, "the buffer is not complete orders").1 (155, "the buffer is not complete orders").2 sa s := st_sx (nr hgv 667 (by decide +kernel)) (wd hts 810 (by decide +kernel))
theorem st_x14 (hts : ∀ w ∈ lw_tbl, w.before args s = true) (hgv : (Jvm.Cond.and given_1 narrow_1).before args s = true) : ∃ sa : Nat, vk_R "TestSlots" (163, "there is no saved state").1 (163, "there is no saved state").2 sa s := st_sx (nr hgv 704 (by decide +kernel)) (wd hts 826 (by decide +kernel))
theorem st_x15 (hts : ∀ w ∈ lw_tbl, w.before args s = true) (hgv : (Jvm.Cond.and given_1 narrow_1).before args s = true) : ∃ sa : Nat, vk_R "TestSlots" (169, "what is not 0 to 10").1 (169, "what is not 0 to 10").2 sa s := st_sx (nr hgv 165 (by decide +kernel)) (wd hts 496 (by decide +kernel))
theorem st_x16 (hts : ∀ w ∈ lw_tbl, w.before args s = true) (hgv : (Jvm.Cond.and given_1 narrow_1).before args s = true) : ∃ sa : Nat, vk_R "TestSlots" (174, "what is not 0 to 8").1 (174, "what is not 0 to 8").2 sa s := st_sx (nr hgv 230 (by decide +kernel)) (wd hts 552 (by decide +kernel))
theorem st_x17 (hts : ∀ w ∈ lw_tbl, w.before args s = true) (hgv : (Jvm.Cond.and given_1 narrow_1).before args s = true) : ∃ sa : Nat, vk_R "TestSlots" (179, "days or slot is out of range").1 (179, "days or slot is out of range").2 sa s := st_sx (nr hgv 252 (by decide +kernel)) (wd hts 561 (by decide +kernel))
theorem st_x18 (hts : ∀ w ∈ lw_tbl, w.before args s = true) (hgv : (Jvm.Cond.and given_1 narrow_1).before args s = true) : ∃ sa : Nat, vk_R "TestSlots" (188, "what is not 0 to 14").1 (188, "what is not 0 to 14").2 sa s := st_sx (nr hgv 125 (by decide +kernel)) (wd hts 404 (by decide +kernel))
theorem st_x19 (hts : ∀ w ∈ lw_tbl, w.before args s = true) (hgv : (Jvm.Cond.and given_1 narrow_1).before args s = true) : ∃ sa : Nat, vk_R "TestSlots" (193, "what is not 0 to 2").1 (193, "what is not 0 to 2").2 sa s := st_sx (nr hgv 188 (by decide +kernel)) (wd hts 524 (by decide +kernel))
theorem st_x20 (hts : ∀ w ∈ lw_tbl, w.before args s = true) (hgv : (Jvm.Cond.and given_1 narrow_1).before args s = true) : ∃ sa : Nat, vk_R "TestSlots" (201, "days is out of range, or what is not 0 to 2").1 (201, "days is out of range, or what is not 0 to 2").2 sa s := st_sx (nr hgv 284 (by decide +kernel)) (wd hts 569 (by decide +kernel))
theorem st_x21 (hts : ∀ w ∈ lw_tbl, w.before args s = true) (hgv : (Jvm.Cond.and given_1 narrow_1).before args s = true) : ∃ sa : Nat, vk_R "TestSlots" (206, "no such pupil or examiner").1 (206, "no such pupil or examiner").2 sa s := st_sx (nr hgv 331 (by decide +kernel)) (wd hts 602 (by decide +kernel))
theorem st_ex (hts : ∀ w ∈ lw_tbl, w.before args s = true) (hgv : (Jvm.Cond.and given_1 narrow_1).before args s = true) : ∀ z ∈ exT, ∃ sa : Nat, vk_R "TestSlots" z.1 z.2 sa s := List.forall_mem_cons.mpr ⟨st_x0 hts hgv, List.forall_mem_cons.mpr ⟨st_x1 hts hgv, List.forall_mem_cons.mpr ⟨st_x2 hts hgv, List.forall_mem_cons.mpr ⟨st_x3 hts hgv, List.forall_mem_cons.mpr ⟨st_x4 hts hgv, List.forall_mem_cons.mpr ⟨st_x5 hts hgv, List.forall_mem_cons.mpr ⟨st_x6 hts hgv, List.forall_mem_cons.mpr ⟨st_x7 hts hgv, List.forall_mem_cons.mpr ⟨st_x8 hts hgv, List.forall_mem_cons.mpr ⟨st_x9 hts hgv, List.forall_mem_cons.mpr ⟨st_x10 hts hgv, List.forall_mem_cons.mpr ⟨st_x11 hts hgv, List.forall_mem_cons.mpr ⟨st_x12 hts hgv, List.forall_mem_cons.mpr ⟨st_x13 hts hgv, List.forall_mem_cons.mpr ⟨st_x14 hts hgv, List.forall_mem_cons.mpr ⟨st_x15 hts hgv, List.forall_mem_cons.mpr ⟨st_x16 hts hgv, List.forall_mem_cons.mpr ⟨st_x17 hts hgv, List.forall_mem_cons.mpr ⟨st_x18 hts hgv, List.forall_mem_cons.mpr ⟨st_x19 hts hgv, List.forall_mem_cons.mpr ⟨st_x20 hts hgv, List.forall_mem_cons.mpr ⟨st_x21 hts hgv, (fun _ h => absurd h List.not_mem_nil)⟩⟩⟩⟩⟩⟩⟩⟩⟩⟩⟩⟩⟩⟩⟩⟩⟩⟩⟩⟩⟩⟩
theorem st_nest (hts : ∀ w ∈ lw_tbl, w.before args s = true) : ∀ z ∈ nestW, va_Nw (.methodLinkNest z.1 z.2.1 z.2.2 "TestSlots") s := List.forall_mem_cons.mpr ⟨va_Nw.of (A := args) rfl (wd hts 460 (by decide +kernel)), List.forall_mem_cons.mpr ⟨va_Nw.of (A := args) rfl (wd hts 513 (by decide +kernel)), List.forall_mem_cons.mpr ⟨va_Nw.of (A := args) rfl (wd hts 533 (by decide +kernel)), List.forall_mem_cons.mpr ⟨va_Nw.of (A := args) rfl (wd hts 587 (by decide +kernel)), List.forall_mem_cons.mpr ⟨va_Nw.of (A := args) rfl (wd hts 94 (by decide +kernel)), List.forall_mem_cons.mpr ⟨va_Nw.of (A := args) rfl (wd hts 137 (by decide +kernel)), List.forall_mem_cons.mpr ⟨va_Nw.of (A := args) rfl (wd hts 192 (by decide +kernel)), (fun _ h => absurd h List.not_mem_nil)⟩⟩⟩⟩⟩⟩⟩
theorem st_nc (hgv : (Jvm.Cond.and given_1 narrow_1).before args s = true) : ∀ z ∈ ncW, va_Nc z.1 z.2 s := List.forall_mem_cons.mpr ⟨va_Nc.of (args := args) (nr hgv 31 (by decide +kernel)), List.forall_mem_cons.mpr ⟨va_Nc.of (args := args) (nr hgv 32 (by decide +kernel)), List.forall_mem_cons.mpr ⟨va_Nc.of (args := args) (nr hgv 39 (by decide +kernel)), List.forall_mem_cons.mpr ⟨va_Nc.of (args := args) (nr hgv 40 (by decide +kernel)), List.forall_mem_cons.mpr ⟨va_Nc.of (args := args) (nr hgv 47 (by decide +kernel)), List.forall_mem_cons.mpr ⟨va_Nc.of (args := args) (nr hgv 48 (by decide +kernel)), (fun _ h => absurd h List.not_mem_nil)⟩⟩⟩⟩⟩⟩
theorem st_cast (hts : ∀ w ∈ lw_tbl, w.before args s = true) : ∀ E ∈ exN, va_Nw (.castable E E) s := List.forall_mem_cons.mpr ⟨va_Nw.of (A := args) rfl (wd hts 655 (by decide +kernel)), List.forall_mem_cons.mpr ⟨va_Nw.of (A := args) rfl (wd hts 365 (by decide +kernel)), List.forall_mem_cons.mpr ⟨va_Nw.of (A := args) rfl (wd hts 482 (by decide +kernel)), (fun _ h => absurd h List.not_mem_nil)⟩⟩⟩
theorem st_dec (hts : ∀ w ∈ lw_tbl, w.before args s = true) : ∀ y ∈ decW, va_Nw (.declares y) s := List.forall_mem_cons.mpr ⟨va_Nw.of (A := args) rfl (wd hts 367 (by decide +kernel)), List.forall_mem_cons.mpr ⟨va_Nw.of (A := args) rfl (wd hts 369 (by decide +kernel)), List.forall_mem_cons.mpr ⟨va_Nw.of (A := args) rfl (wd hts 371 (by decide +kernel)), (fun _ h => absurd h List.not_mem_nil)⟩⟩⟩
theorem st_sr (hts : ∀ w ∈ lw_tbl, w.before args s = true) : ∀ i, i < 6 → (Cond.stringRef "TestSlots$OrderText" (wdI.getD i 0) (wdT.getD i "")).before args s = true := by
  intro i hi
  have : i = 0 ∨ i = 1 ∨ i = 2 ∨ i = 3 ∨ i = 4 ∨ i = 5 := by omega
  rcases this with rfl | rfl | rfl | rfl | rfl | rfl
  · exact (wd hts 264 (by decide +kernel))
  · exact (wd hts 265 (by decide +kernel))
  · exact (wd hts 266 (by decide +kernel))
  · exact (wd hts 267 (by decide +kernel))
  · exact (wd hts 268 (by decide +kernel))
  · exact (wd hts 269 (by decide +kernel))
theorem st_gt (hts : ∀ w ∈ lw_tbl, w.before args s = true) : ∀ w ∈ gTbl, w.before args s = true := fun w h => hts w (List.mem_filter.mp h).1
theorem st_arr {ty : FieldType} (h : (Cond.arrayClass ty).before args s = true) (hR : ∀ cA, s.vm.findClass ("[" ++ ty.toString) = some cA → va_RA s cA ty) : ∃ cA : ClassId, ArrOfT s cA ty ∧ va_RA s cA ty := by
  obtain ⟨cA, kA, comp, h1, h2, h3⟩ := Cond.arrayClass_spec h
  exact ⟨cA, fun n z => ⟨fun k h => (by cases h), kA, h2, comp, h3⟩, hR cA h1⟩
theorem st_aro {C : String} (h : (Cond.arrayOver (.object C)).before args s = true) : ∃ cA : ClassId, ArrOfT s cA (.object C) ∧ va_RA s cA (.object C) := by
  obtain ⟨comp, c, k, h1, h2, h3, h4, h5⟩ := Cond.arrayOver_spec h
  exact ⟨c, fun n z => ⟨fun k h => (by cases h), k, h3, comp, h4⟩, k, comp, h3, h4, h1, h5⟩
theorem st_K (hts : ∀ w ∈ lw_tbl, w.before args s = true) : ∃ (D : va_G) (gc : Nat → ClassId), va_K D vwCl [(gc 0, .int), (gc 1, .boolean), (gc 2, .long), (gc 3, .object "TestSlots$Pupil"), (gc 4, .object "TestSlots$Examiner"), (gc 5, .object "TestSlots$Office")] s := by
  obtain ⟨c0, i0, k0⟩ := u_known (C := RX0) (T := TX0) (N := 3) (n := 3) (st_gt hts) inX0 (wd hts 136 (by decide +kernel))
  obtain ⟨c1, i1, k1⟩ := u_known (C := RX1) (T := TX1) (N := 10) (n := 10) (st_gt hts) inX1 (wd hts 76 (by decide +kernel))
  obtain ⟨c2, i2, k2⟩ := u_known (C := RX2) (T := TX2) (N := 7) (n := 7) (st_gt hts) inX2 (wd hts 191 (by decide +kernel))
  obtain ⟨c3, i3, k3⟩ := u_known (C := RX3) (T := TX3) (N := 9) (n := 9) (st_gt hts) inX3 (wd hts 93 (by decide +kernel))
  obtain ⟨c4, i4, k4⟩ := u_known (C := RX4) (T := TX4) (N := 5) (n := 5) (st_gt hts) inX4 (wd hts 68 (by decide +kernel))
  obtain ⟨c5, i5, k5⟩ := u_known (C := RX5) (T := TX5) (N := 16) (n := 16) (st_gt hts) inX5 (wd hts 867 (by decide +kernel))
  obtain ⟨a0, r0⟩ := st_arr (ty := .int) (wd hts 135 (by decide +kernel)) (fun cA h => h)
  obtain ⟨a1, r1⟩ := st_arr (ty := .boolean) (wd hts 921 (by decide +kernel)) (fun cA h => h)
  obtain ⟨a2, r2⟩ := st_arr (ty := .long) (wd hts 1223 (by decide +kernel)) (fun cA h => h)
  obtain ⟨a3, r3⟩ := st_aro (C := "TestSlots$Pupil") (wd hts 84 (by decide +kernel))
  obtain ⟨a4, r4⟩ := st_aro (C := "TestSlots$Examiner") (wd hts 86 (by decide +kernel))
  obtain ⟨a5, r5⟩ := st_aro (C := "TestSlots$Office") (wd hts 189 (by decide +kernel))
  refine ⟨(fun k => match k with | 0 => c0 | 1 => c1 | 2 => c2 | 3 => c3 | 4 => c4 | _ => c5, fun k => match k with | 0 => i0 | 1 => i1 | 2 => i2 | 3 => i3 | 4 => i4 | _ => i5), fun k => match k with | 0 => a0 | 1 => a1 | 2 => a2 | 3 => a3 | 4 => a4 | _ => a5, fun c q hq => ?_, fun k q hq => ?_⟩
  · match c, hq with
    | 0, hq => cases hq; exact k0
    | 1, hq => cases hq; exact k1
    | 2, hq => cases hq; exact k2
    | 3, hq => cases hq; exact k3
    | 4, hq => cases hq; exact k4
    | 5, hq => cases hq; exact k5
    | c + 6, hq => simp at hq
  · match k, hq with
    | 0, hq => cases hq; exact r0
    | 1, hq => cases hq; exact r1
    | 2, hq => cases hq; exact r2
    | 3, hq => cases hq; exact r3
    | 4, hq => cases hq; exact r4
    | 5, hq => cases hq; exact r5
    | k + 6, hq => simp at hq
end ST
