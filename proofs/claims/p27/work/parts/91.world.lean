/-! THE WORLD AT THE LOOP'S HEAD -/
section WO
variable {B : BB} {S : Nat → Nat} {C : Nat → va_E} {b aH L r j : Nat} {xs : Nat → Int32} {H : Heap}
abbrev WZ (B : BB) (S : Nat → Nat) (b aH : Nat) (L : Nat) (xs : Nat → Int32) (H : Heap) (z : Nat × Nat × Nat) : Prop := va_at (bD B) vwCl (S (ordn z.1 z.2.1 z.2.2), cellE (gM B S b aH L xs) m0 z) H
theorem wo_0 (A : ∀ x, x < 215 → va_at (bD B) vwCl (S x, C x) H) (hr : obs r + 26 ≤ 215) (h : Sh1 B S C (obs r)) : WZ B S b aH L xs H (0, r, 0) ∧ WZ B S b aH L xs H (1, r, 0) ∧ WZ B S b aH L xs H (2, r, 0) ∧ WZ B S b aH L xs H (3, r, 0) ∧ WZ B S b aH L xs H (7, r, 0) ∧ WZ B S b aH L xs H (8, r, 0) := by
  obtain ⟨h1, ⟨f2, h2, g2⟩, ⟨f3, h3, g3⟩, ⟨f4, h4, g4⟩, ⟨f5, h5, g5⟩, h6, -, -⟩ := h
  exact ⟨at_ob (A (obs r) (by omega)) h1, at_i (A (obs r + 1) (by omega)) h2 g2, at_i (A (obs r + 2) (by omega)) h3 g3, at_ob (A (obs r + 5) (by omega)) h6, at_q (A (obs r + 3) (by omega)) h4 g4, at_q (A (obs r + 4) (by omega)) h5 g5⟩
theorem wo_4 (A : ∀ x, x < 215 → va_at (bD B) vwCl (S x, C x) H) (hr : obs r + 26 ≤ 215) (hj : j < 12) (h : Sh1 B S C (obs r)) : WZ B S b aH L xs H (4, r, j) :=
  at_ob (A (obs r + 6 + 1 * j) (by omega)) (h.2.2.2.2.2.2.1 j hj)
theorem wo_5 (A : ∀ x, x < 215 → va_at (bD B) vwCl (S x, C x) H) (hr : obs r + 26 ≤ 215) (hj : j < 4) (h : Sh1 B S C (obs r)) : WZ B S b aH L xs H (5, r, j) ∧ WZ B S b aH L xs H (6, r, j) :=
  ⟨at_ob (A (obs r + 18 + 2 * j) (by omega)) (h.2.2.2.2.2.2.2 j hj).1, at_ob (A (obs r + 18 + 2 * j + 1) (by omega)) (h.2.2.2.2.2.2.2 j hj).2⟩
theorem wo_8 (A : ∀ x, x < 215 → va_at (bD B) vwCl (S x, C x) H) (h : Sh4 B S C 0) : WZ B S b aH L xs H (10, 8, 0) ∧ WZ B S b aH L xs H (11, 8, 0) ∧ WZ B S b aH L xs H (12, 8, 0) ∧ WZ B S b aH L xs H (13, 8, 0) ∧ WZ B S b aH L xs H (14, 8, 0) ∧ WZ B S b aH L xs H (15, 8, 0) ∧ WZ B S b aH L xs H (16, 8, 0) := by
  obtain ⟨h1, -, -, ⟨f4, h4, g4⟩, ⟨t1, t2, t3, t4, t5⟩, -⟩ := h
  refine ⟨at_ob (A 0 (by omega)) h1, at_q (A 53 (by omega)) h4 (fun y hy => ?_), at_ob (A 54 (by omega)) t1, at_ob (A 55 (by omega)) t2, at_ob (A 56 (by omega)) t3, at_ob (A 57 (by omega)) t4, at_ob (A 58 (by omega)) t5⟩
  rw [g4 y hy]
  show _ = some (adr S b (bF B) aH 0 (ix (nI (2 + y))) 0)
  rw [ixn (by omega)]
  have : y = 0 ∨ y = 1 ∨ y = 2 ∨ y = 3 ∨ y = 4 ∨ y = 5 := by omega
  rcases this with rfl | rfl | rfl | rfl | rfl | rfl <;> rfl
theorem sh_r (h : Sh4 B S C 0) : ∀ r, r < 8 → Sh1 B S C (obs r) ∧ obs r + 26 ≤ 215 := by
  intro r hr
  obtain ⟨-, h2, h3, -, -, h6⟩ := h
  have : r = 0 ∨ r = 1 ∨ r = 2 ∨ r = 3 ∨ r = 4 ∨ r = 5 ∨ r = 6 ∨ r = 7 := by omega
  rcases this with rfl | rfl | rfl | rfl | rfl | rfl | rfl | rfl
  · exact ⟨h2, by decide⟩
  · exact ⟨h3, by decide⟩
  · exact ⟨h6 0 (by omega), by decide⟩
  · exact ⟨h6 1 (by omega), by decide⟩
  · exact ⟨h6 2 (by omega), by decide⟩
  · exact ⟨h6 3 (by omega), by decide⟩
  · exact ⟨h6 4 (by omega), by decide⟩
  · exact ⟨h6 5 (by omega), by decide⟩
theorem world_of (hG : Gw B S C 215 H) (h4 : Sh4 B S C 0) : World (gM B S b aH L xs) m0 H := by
  have A : ∀ x, x < 215 → va_at (bD B) vwCl (S x, C x) H := fun x hx => hG.1 x _ (gws_at hx)
  intro i q hq
  obtain ⟨z, hz, hm, rfl⟩ := cells_adr hq
  show WZ B S b aH L xs H z
  clear hq hz
  unfold trip at hm
  rw [List.mem_append] at hm
  rcases hm with hm | hm
  · obtain ⟨r, hr, hm⟩ := List.mem_flatMap.mp hm
    have hr := List.mem_range.mp hr
    obtain ⟨hs, hb⟩ := sh_r h4 r hr
    obtain ⟨w0, w1, w2, w3, w7, w8⟩ := wo_0 (b := b) (aH := aH) (L := L) (xs := xs) A hb hs
    rw [List.mem_append, List.mem_append] at hm
    rcases hm with (hm | hm) | hm
    · simp only [List.mem_cons, List.not_mem_nil, or_false] at hm
      rcases hm with rfl | rfl | rfl | rfl | rfl | rfl
      · exact w0
      · exact w1
      · exact w2
      · exact w3
      · exact w7
      · exact w8
    · obtain ⟨j, hj, rfl⟩ := List.mem_map.mp hm
      exact wo_4 A hb (List.mem_range.mp hj) hs
    · obtain ⟨j, hj, hm⟩ := List.mem_flatMap.mp hm
      obtain ⟨w5, w6⟩ := wo_5 (b := b) (aH := aH) (L := L) (xs := xs) A hb (List.mem_range.mp hj) hs
      simp only [List.mem_cons, List.not_mem_nil, or_false] at hm
      rcases hm with rfl | rfl
      · exact w5
      · exact w6
  · obtain ⟨w0, w1, w2, w3, w4, w5, w6⟩ := wo_8 (b := b) (aH := aH) (L := L) (xs := xs) A h4
    simp only [List.mem_cons, List.not_mem_nil, or_false] at hm
    rcases hm with rfl | rfl | rfl | rfl | rfl | rfl | rfl
    · exact w0
    · exact w1
    · exact w2
    · exact w3
    · exact w4
    · exact w5
    · exact w6
end WO
