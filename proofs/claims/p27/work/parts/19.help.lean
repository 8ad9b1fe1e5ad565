/-! SMALL WORDS of the laid rows -/
def bI (P : Prop) [Decidable P] : Int32 := if P then 1 else 0
abbrev irm (x y : Int32) : Int32 := x - x / y * y
theorem bI_0 {P : Prop} [Decidable P] (h : bI P = 0) : ¬ P := fun p => by
  unfold bI at h
  rw [if_pos p] at h
  exact absurd h (by decide)
theorem bI_1 {P : Prop} [Decidable P] (h : ¬ bI P = 0) : P := by
  by_cases p : P
  · exact p
  · exact absurd (by unfold bI; rw [if_neg p]) h
theorem bI_t {P : Prop} [Decidable P] (h : P) : bI P = 1 := by unfold bI; rw [if_pos h]
theorem bI_f {P : Prop} [Decidable P] (h : ¬ P) : bI P = 0 := by unfold bI; rw [if_neg h]
theorem bI_z (P : Prop) [Decidable P] : bI P = 0 ∨ bI P = 1 := by
  by_cases p : P
  · exact Or.inr (by unfold bI; rw [if_pos p])
  · exact Or.inl (by unfold bI; rw [if_neg p])
theorem z_narrow {x : Int32} (h : x = 0 ∨ x = 1) : narrow .boolean (.int x) = .int x := by
  rcases h with e | e <;> subst e <;> decide
theorem z_fits {x : Int32} (h : x = 0 ∨ x = 1) : fits .boolean (.int x) = true := by
  rcases h with e | e <;> subst e <;> decide
theorem bI_narrow (P : Prop) [Decidable P] : narrow .boolean (.int (bI P)) = .int (bI P) := z_narrow (bI_z P)
theorem bI_fits (P : Prop) [Decidable P] : fits .boolean (.int (bI P)) = true := z_fits (bI_z P)
theorem sw_core {x : Int32} {n : Nat} (hn : n < 2 ^ 31) (h : ∀ k, k < n → ¬ x = nI k) : x.toInt < 0 ∨ (n : Int) - 1 < x.toInt := by
  by_cases h0 : x.toInt < 0
  · exact Or.inl h0
  · right
    rcases Int.lt_or_le ((n : Int) - 1) x.toInt with q | q
    · exact q
    · refine absurd (Int32.toInt_inj.mp ?_) (h x.toInt.toNat (by omega))
      rw [nI_toInt (by omega)]
      omega
section RH
variable {g : GG} {d : Nat} {M : MD} {pc : Nat} {ls : List (Option PV)} {m : PM}
theorem Wq.iretI {f : Int32 → PM → Prop} {x : Int32} (hd : decode M.2.1 pc = .ok (.ireturn, 1)) (hn : ∃ rt, M.2.2.2.1 = some rt ∧ narrow rt (.int x) = .int x) (q : f x m) : Wq g d M 0 0 pc ls [pI x] m (fun o m' c n => c = 0 ∧ n = 0 ∧ cI f o m') := Wq.iret hd hn ⟨rfl, rfl, q⟩
theorem Wq.lretL {f : Int64 → PM → Prop} {x : Int64} (hd : decode M.2.1 pc = .ok (.lreturn, 1)) (hn : M.2.2.2.1 = some .long) (q : f x m) : Wq g d M 0 0 pc ls [pL x] m (fun o m' c n => c = 0 ∧ n = 0 ∧ cL f o m') := Wq.lret hd hn ⟨rfl, rfl, q⟩
theorem Wq.vretV {f : PM → Prop} (hd : decode M.2.1 pc = .ok (.return_, 1)) (hn : M.2.2.2.1 = none) (q : f m) : Wq g d M 0 0 pc ls [] m (fun o m' c n => c = 0 ∧ n = 0 ∧ cV f o m') := Wq.vret hd hn ⟨rfl, rfl, q⟩
theorem Wq.aretO {f : Nat → Nat → Nat → PM → Prop} {t r j : Nat} (hd : decode M.2.1 pc = .ok (.areturn, 1)) (hn : ∃ n, M.2.2.2.1 = some (.object n)) (q : f t r j m) : Wq g d M 0 0 pc ls [pO t r j] m (fun o m' c n => c = 0 ∧ n = 0 ∧ cO f o m') := Wq.aret hd hn ⟨rfl, rfl, q⟩
end RH
theorem sw_out2 {x : Int32} (q0 : ¬ x = 0) (q1 : ¬ x = 1) : x.toInt < 0 ∨ 1 < x.toInt := by
  refine (sw_core (x := x) (n := 2) (by decide) (fun k hk => ?_)).imp id (fun h => by omega)
  rcases Nat.lt_or_eq_of_le (Nat.le_of_lt_succ hk) with hk | rfl
  rotate_left
  · exact q1
  obtain rfl : k = 0 := by omega
  exact q0
theorem sw_out3 {x : Int32} (q0 : ¬ x = 0) (q1 : ¬ x = 1) (q2 : ¬ x = 2) : x.toInt < 0 ∨ 2 < x.toInt := by
  refine (sw_core (x := x) (n := 3) (by decide) (fun k hk => ?_)).imp id (fun h => by omega)
  rcases Nat.lt_or_eq_of_le (Nat.le_of_lt_succ hk) with hk | rfl
  rotate_left
  · exact q2
  rcases Nat.lt_or_eq_of_le (Nat.le_of_lt_succ hk) with hk | rfl
  rotate_left
  · exact q1
  obtain rfl : k = 0 := by omega
  exact q0
theorem sw_out4 {x : Int32} (q0 : ¬ x = 0) (q1 : ¬ x = 1) (q2 : ¬ x = 2) (q3 : ¬ x = 3) : x.toInt < 0 ∨ 3 < x.toInt := by
  refine (sw_core (x := x) (n := 4) (by decide) (fun k hk => ?_)).imp id (fun h => by omega)
  rcases Nat.lt_or_eq_of_le (Nat.le_of_lt_succ hk) with hk | rfl
  rotate_left
  · exact q3
  rcases Nat.lt_or_eq_of_le (Nat.le_of_lt_succ hk) with hk | rfl
  rotate_left
  · exact q2
  rcases Nat.lt_or_eq_of_le (Nat.le_of_lt_succ hk) with hk | rfl
  rotate_left
  · exact q1
  obtain rfl : k = 0 := by omega
  exact q0
theorem sw_out5 {x : Int32} (q0 : ¬ x = 0) (q1 : ¬ x = 1) (q2 : ¬ x = 2) (q3 : ¬ x = 3) (q4 : ¬ x = 4) : x.toInt < 0 ∨ 4 < x.toInt := by
  refine (sw_core (x := x) (n := 5) (by decide) (fun k hk => ?_)).imp id (fun h => by omega)
  rcases Nat.lt_or_eq_of_le (Nat.le_of_lt_succ hk) with hk | rfl
  rotate_left
  · exact q4
  rcases Nat.lt_or_eq_of_le (Nat.le_of_lt_succ hk) with hk | rfl
  rotate_left
  · exact q3
  rcases Nat.lt_or_eq_of_le (Nat.le_of_lt_succ hk) with hk | rfl
  rotate_left
  · exact q2
  rcases Nat.lt_or_eq_of_le (Nat.le_of_lt_succ hk) with hk | rfl
  rotate_left
  · exact q1
  obtain rfl : k = 0 := by omega
  exact q0
theorem sw_out6 {x : Int32} (q0 : ¬ x = 0) (q1 : ¬ x = 1) (q2 : ¬ x = 2) (q3 : ¬ x = 3) (q4 : ¬ x = 4) (q5 : ¬ x = 5) : x.toInt < 0 ∨ 5 < x.toInt := by
  refine (sw_core (x := x) (n := 6) (by decide) (fun k hk => ?_)).imp id (fun h => by omega)
  rcases Nat.lt_or_eq_of_le (Nat.le_of_lt_succ hk) with hk | rfl
  rotate_left
  · exact q5
  rcases Nat.lt_or_eq_of_le (Nat.le_of_lt_succ hk) with hk | rfl
  rotate_left
  · exact q4
  rcases Nat.lt_or_eq_of_le (Nat.le_of_lt_succ hk) with hk | rfl
  rotate_left
  · exact q3
  rcases Nat.lt_or_eq_of_le (Nat.le_of_lt_succ hk) with hk | rfl
  rotate_left
  · exact q2
  rcases Nat.lt_or_eq_of_le (Nat.le_of_lt_succ hk) with hk | rfl
  rotate_left
  · exact q1
  obtain rfl : k = 0 := by omega
  exact q0
theorem sw_out7 {x : Int32} (q0 : ¬ x = 0) (q1 : ¬ x = 1) (q2 : ¬ x = 2) (q3 : ¬ x = 3) (q4 : ¬ x = 4) (q5 : ¬ x = 5) (q6 : ¬ x = 6) : x.toInt < 0 ∨ 6 < x.toInt := by
  refine (sw_core (x := x) (n := 7) (by decide) (fun k hk => ?_)).imp id (fun h => by omega)
  rcases Nat.lt_or_eq_of_le (Nat.le_of_lt_succ hk) with hk | rfl
  rotate_left
  · exact q6
  rcases Nat.lt_or_eq_of_le (Nat.le_of_lt_succ hk) with hk | rfl
  rotate_left
  · exact q5
  rcases Nat.lt_or_eq_of_le (Nat.le_of_lt_succ hk) with hk | rfl
  rotate_left
  · exact q4
  rcases Nat.lt_or_eq_of_le (Nat.le_of_lt_succ hk) with hk | rfl
  rotate_left
  · exact q3
  rcases Nat.lt_or_eq_of_le (Nat.le_of_lt_succ hk) with hk | rfl
  rotate_left
  · exact q2
  rcases Nat.lt_or_eq_of_le (Nat.le_of_lt_succ hk) with hk | rfl
  rotate_left
  · exact q1
  obtain rfl : k = 0 := by omega
  exact q0
theorem sw_out8 {x : Int32} (q0 : ¬ x = 0) (q1 : ¬ x = 1) (q2 : ¬ x = 2) (q3 : ¬ x = 3) (q4 : ¬ x = 4) (q5 : ¬ x = 5) (q6 : ¬ x = 6) (q7 : ¬ x = 7) : x.toInt < 0 ∨ 7 < x.toInt := by
  refine (sw_core (x := x) (n := 8) (by decide) (fun k hk => ?_)).imp id (fun h => by omega)
  rcases Nat.lt_or_eq_of_le (Nat.le_of_lt_succ hk) with hk | rfl
  rotate_left
  · exact q7
  rcases Nat.lt_or_eq_of_le (Nat.le_of_lt_succ hk) with hk | rfl
  rotate_left
  · exact q6
  rcases Nat.lt_or_eq_of_le (Nat.le_of_lt_succ hk) with hk | rfl
  rotate_left
  · exact q5
  rcases Nat.lt_or_eq_of_le (Nat.le_of_lt_succ hk) with hk | rfl
  rotate_left
  · exact q4
  rcases Nat.lt_or_eq_of_le (Nat.le_of_lt_succ hk) with hk | rfl
  rotate_left
  · exact q3
  rcases Nat.lt_or_eq_of_le (Nat.le_of_lt_succ hk) with hk | rfl
  rotate_left
  · exact q2
  rcases Nat.lt_or_eq_of_le (Nat.le_of_lt_succ hk) with hk | rfl
  rotate_left
  · exact q1
  obtain rfl : k = 0 := by omega
  exact q0
theorem sw_out9 {x : Int32} (q0 : ¬ x = 0) (q1 : ¬ x = 1) (q2 : ¬ x = 2) (q3 : ¬ x = 3) (q4 : ¬ x = 4) (q5 : ¬ x = 5) (q6 : ¬ x = 6) (q7 : ¬ x = 7) (q8 : ¬ x = 8) : x.toInt < 0 ∨ 8 < x.toInt := by
  refine (sw_core (x := x) (n := 9) (by decide) (fun k hk => ?_)).imp id (fun h => by omega)
  rcases Nat.lt_or_eq_of_le (Nat.le_of_lt_succ hk) with hk | rfl
  rotate_left
  · exact q8
  rcases Nat.lt_or_eq_of_le (Nat.le_of_lt_succ hk) with hk | rfl
  rotate_left
  · exact q7
  rcases Nat.lt_or_eq_of_le (Nat.le_of_lt_succ hk) with hk | rfl
  rotate_left
  · exact q6
  rcases Nat.lt_or_eq_of_le (Nat.le_of_lt_succ hk) with hk | rfl
  rotate_left
  · exact q5
  rcases Nat.lt_or_eq_of_le (Nat.le_of_lt_succ hk) with hk | rfl
  rotate_left
  · exact q4
  rcases Nat.lt_or_eq_of_le (Nat.le_of_lt_succ hk) with hk | rfl
  rotate_left
  · exact q3
  rcases Nat.lt_or_eq_of_le (Nat.le_of_lt_succ hk) with hk | rfl
  rotate_left
  · exact q2
  rcases Nat.lt_or_eq_of_le (Nat.le_of_lt_succ hk) with hk | rfl
  rotate_left
  · exact q1
  obtain rfl : k = 0 := by omega
  exact q0
theorem sw_out10 {x : Int32} (q0 : ¬ x = 0) (q1 : ¬ x = 1) (q2 : ¬ x = 2) (q3 : ¬ x = 3) (q4 : ¬ x = 4) (q5 : ¬ x = 5) (q6 : ¬ x = 6) (q7 : ¬ x = 7) (q8 : ¬ x = 8) (q9 : ¬ x = 9) : x.toInt < 0 ∨ 9 < x.toInt := by
  refine (sw_core (x := x) (n := 10) (by decide) (fun k hk => ?_)).imp id (fun h => by omega)
  rcases Nat.lt_or_eq_of_le (Nat.le_of_lt_succ hk) with hk | rfl
  rotate_left
  · exact q9
  rcases Nat.lt_or_eq_of_le (Nat.le_of_lt_succ hk) with hk | rfl
  rotate_left
  · exact q8
  rcases Nat.lt_or_eq_of_le (Nat.le_of_lt_succ hk) with hk | rfl
  rotate_left
  · exact q7
  rcases Nat.lt_or_eq_of_le (Nat.le_of_lt_succ hk) with hk | rfl
  rotate_left
  · exact q6
  rcases Nat.lt_or_eq_of_le (Nat.le_of_lt_succ hk) with hk | rfl
  rotate_left
  · exact q5
  rcases Nat.lt_or_eq_of_le (Nat.le_of_lt_succ hk) with hk | rfl
  rotate_left
  · exact q4
  rcases Nat.lt_or_eq_of_le (Nat.le_of_lt_succ hk) with hk | rfl
  rotate_left
  · exact q3
  rcases Nat.lt_or_eq_of_le (Nat.le_of_lt_succ hk) with hk | rfl
  rotate_left
  · exact q2
  rcases Nat.lt_or_eq_of_le (Nat.le_of_lt_succ hk) with hk | rfl
  rotate_left
  · exact q1
  obtain rfl : k = 0 := by omega
  exact q0
theorem sw_out11 {x : Int32} (q0 : ¬ x = 0) (q1 : ¬ x = 1) (q2 : ¬ x = 2) (q3 : ¬ x = 3) (q4 : ¬ x = 4) (q5 : ¬ x = 5) (q6 : ¬ x = 6) (q7 : ¬ x = 7) (q8 : ¬ x = 8) (q9 : ¬ x = 9) (q10 : ¬ x = 10) : x.toInt < 0 ∨ 10 < x.toInt := by
  refine (sw_core (x := x) (n := 11) (by decide) (fun k hk => ?_)).imp id (fun h => by omega)
  rcases Nat.lt_or_eq_of_le (Nat.le_of_lt_succ hk) with hk | rfl
  rotate_left
  · exact q10
  rcases Nat.lt_or_eq_of_le (Nat.le_of_lt_succ hk) with hk | rfl
  rotate_left
  · exact q9
  rcases Nat.lt_or_eq_of_le (Nat.le_of_lt_succ hk) with hk | rfl
  rotate_left
  · exact q8
  rcases Nat.lt_or_eq_of_le (Nat.le_of_lt_succ hk) with hk | rfl
  rotate_left
  · exact q7
  rcases Nat.lt_or_eq_of_le (Nat.le_of_lt_succ hk) with hk | rfl
  rotate_left
  · exact q6
  rcases Nat.lt_or_eq_of_le (Nat.le_of_lt_succ hk) with hk | rfl
  rotate_left
  · exact q5
  rcases Nat.lt_or_eq_of_le (Nat.le_of_lt_succ hk) with hk | rfl
  rotate_left
  · exact q4
  rcases Nat.lt_or_eq_of_le (Nat.le_of_lt_succ hk) with hk | rfl
  rotate_left
  · exact q3
  rcases Nat.lt_or_eq_of_le (Nat.le_of_lt_succ hk) with hk | rfl
  rotate_left
  · exact q2
  rcases Nat.lt_or_eq_of_le (Nat.le_of_lt_succ hk) with hk | rfl
  rotate_left
  · exact q1
  obtain rfl : k = 0 := by omega
  exact q0
theorem sw_out12 {x : Int32} (q0 : ¬ x = 0) (q1 : ¬ x = 1) (q2 : ¬ x = 2) (q3 : ¬ x = 3) (q4 : ¬ x = 4) (q5 : ¬ x = 5) (q6 : ¬ x = 6) (q7 : ¬ x = 7) (q8 : ¬ x = 8) (q9 : ¬ x = 9) (q10 : ¬ x = 10) (q11 : ¬ x = 11) : x.toInt < 0 ∨ 11 < x.toInt := by
  refine (sw_core (x := x) (n := 12) (by decide) (fun k hk => ?_)).imp id (fun h => by omega)
  rcases Nat.lt_or_eq_of_le (Nat.le_of_lt_succ hk) with hk | rfl
  rotate_left
  · exact q11
  rcases Nat.lt_or_eq_of_le (Nat.le_of_lt_succ hk) with hk | rfl
  rotate_left
  · exact q10
  rcases Nat.lt_or_eq_of_le (Nat.le_of_lt_succ hk) with hk | rfl
  rotate_left
  · exact q9
  rcases Nat.lt_or_eq_of_le (Nat.le_of_lt_succ hk) with hk | rfl
  rotate_left
  · exact q8
  rcases Nat.lt_or_eq_of_le (Nat.le_of_lt_succ hk) with hk | rfl
  rotate_left
  · exact q7
  rcases Nat.lt_or_eq_of_le (Nat.le_of_lt_succ hk) with hk | rfl
  rotate_left
  · exact q6
  rcases Nat.lt_or_eq_of_le (Nat.le_of_lt_succ hk) with hk | rfl
  rotate_left
  · exact q5
  rcases Nat.lt_or_eq_of_le (Nat.le_of_lt_succ hk) with hk | rfl
  rotate_left
  · exact q4
  rcases Nat.lt_or_eq_of_le (Nat.le_of_lt_succ hk) with hk | rfl
  rotate_left
  · exact q3
  rcases Nat.lt_or_eq_of_le (Nat.le_of_lt_succ hk) with hk | rfl
  rotate_left
  · exact q2
  rcases Nat.lt_or_eq_of_le (Nat.le_of_lt_succ hk) with hk | rfl
  rotate_left
  · exact q1
  obtain rfl : k = 0 := by omega
  exact q0
theorem sw_out13 {x : Int32} (q0 : ¬ x = 0) (q1 : ¬ x = 1) (q2 : ¬ x = 2) (q3 : ¬ x = 3) (q4 : ¬ x = 4) (q5 : ¬ x = 5) (q6 : ¬ x = 6) (q7 : ¬ x = 7) (q8 : ¬ x = 8) (q9 : ¬ x = 9) (q10 : ¬ x = 10) (q11 : ¬ x = 11) (q12 : ¬ x = 12) : x.toInt < 0 ∨ 12 < x.toInt := by
  refine (sw_core (x := x) (n := 13) (by decide) (fun k hk => ?_)).imp id (fun h => by omega)
  rcases Nat.lt_or_eq_of_le (Nat.le_of_lt_succ hk) with hk | rfl
  rotate_left
  · exact q12
  rcases Nat.lt_or_eq_of_le (Nat.le_of_lt_succ hk) with hk | rfl
  rotate_left
  · exact q11
  rcases Nat.lt_or_eq_of_le (Nat.le_of_lt_succ hk) with hk | rfl
  rotate_left
  · exact q10
  rcases Nat.lt_or_eq_of_le (Nat.le_of_lt_succ hk) with hk | rfl
  rotate_left
  · exact q9
  rcases Nat.lt_or_eq_of_le (Nat.le_of_lt_succ hk) with hk | rfl
  rotate_left
  · exact q8
  rcases Nat.lt_or_eq_of_le (Nat.le_of_lt_succ hk) with hk | rfl
  rotate_left
  · exact q7
  rcases Nat.lt_or_eq_of_le (Nat.le_of_lt_succ hk) with hk | rfl
  rotate_left
  · exact q6
  rcases Nat.lt_or_eq_of_le (Nat.le_of_lt_succ hk) with hk | rfl
  rotate_left
  · exact q5
  rcases Nat.lt_or_eq_of_le (Nat.le_of_lt_succ hk) with hk | rfl
  rotate_left
  · exact q4
  rcases Nat.lt_or_eq_of_le (Nat.le_of_lt_succ hk) with hk | rfl
  rotate_left
  · exact q3
  rcases Nat.lt_or_eq_of_le (Nat.le_of_lt_succ hk) with hk | rfl
  rotate_left
  · exact q2
  rcases Nat.lt_or_eq_of_le (Nat.le_of_lt_succ hk) with hk | rfl
  rotate_left
  · exact q1
  obtain rfl : k = 0 := by omega
  exact q0
theorem sw_out14 {x : Int32} (q0 : ¬ x = 0) (q1 : ¬ x = 1) (q2 : ¬ x = 2) (q3 : ¬ x = 3) (q4 : ¬ x = 4) (q5 : ¬ x = 5) (q6 : ¬ x = 6) (q7 : ¬ x = 7) (q8 : ¬ x = 8) (q9 : ¬ x = 9) (q10 : ¬ x = 10) (q11 : ¬ x = 11) (q12 : ¬ x = 12) (q13 : ¬ x = 13) : x.toInt < 0 ∨ 13 < x.toInt := by
  refine (sw_core (x := x) (n := 14) (by decide) (fun k hk => ?_)).imp id (fun h => by omega)
  rcases Nat.lt_or_eq_of_le (Nat.le_of_lt_succ hk) with hk | rfl
  rotate_left
  · exact q13
  rcases Nat.lt_or_eq_of_le (Nat.le_of_lt_succ hk) with hk | rfl
  rotate_left
  · exact q12
  rcases Nat.lt_or_eq_of_le (Nat.le_of_lt_succ hk) with hk | rfl
  rotate_left
  · exact q11
  rcases Nat.lt_or_eq_of_le (Nat.le_of_lt_succ hk) with hk | rfl
  rotate_left
  · exact q10
  rcases Nat.lt_or_eq_of_le (Nat.le_of_lt_succ hk) with hk | rfl
  rotate_left
  · exact q9
  rcases Nat.lt_or_eq_of_le (Nat.le_of_lt_succ hk) with hk | rfl
  rotate_left
  · exact q8
  rcases Nat.lt_or_eq_of_le (Nat.le_of_lt_succ hk) with hk | rfl
  rotate_left
  · exact q7
  rcases Nat.lt_or_eq_of_le (Nat.le_of_lt_succ hk) with hk | rfl
  rotate_left
  · exact q6
  rcases Nat.lt_or_eq_of_le (Nat.le_of_lt_succ hk) with hk | rfl
  rotate_left
  · exact q5
  rcases Nat.lt_or_eq_of_le (Nat.le_of_lt_succ hk) with hk | rfl
  rotate_left
  · exact q4
  rcases Nat.lt_or_eq_of_le (Nat.le_of_lt_succ hk) with hk | rfl
  rotate_left
  · exact q3
  rcases Nat.lt_or_eq_of_le (Nat.le_of_lt_succ hk) with hk | rfl
  rotate_left
  · exact q2
  rcases Nat.lt_or_eq_of_le (Nat.le_of_lt_succ hk) with hk | rfl
  rotate_left
  · exact q1
  obtain rfl : k = 0 := by omega
  exact q0
theorem sw_out15 {x : Int32} (q0 : ¬ x = 0) (q1 : ¬ x = 1) (q2 : ¬ x = 2) (q3 : ¬ x = 3) (q4 : ¬ x = 4) (q5 : ¬ x = 5) (q6 : ¬ x = 6) (q7 : ¬ x = 7) (q8 : ¬ x = 8) (q9 : ¬ x = 9) (q10 : ¬ x = 10) (q11 : ¬ x = 11) (q12 : ¬ x = 12) (q13 : ¬ x = 13) (q14 : ¬ x = 14) : x.toInt < 0 ∨ 14 < x.toInt := by
  refine (sw_core (x := x) (n := 15) (by decide) (fun k hk => ?_)).imp id (fun h => by omega)
  rcases Nat.lt_or_eq_of_le (Nat.le_of_lt_succ hk) with hk | rfl
  rotate_left
  · exact q14
  rcases Nat.lt_or_eq_of_le (Nat.le_of_lt_succ hk) with hk | rfl
  rotate_left
  · exact q13
  rcases Nat.lt_or_eq_of_le (Nat.le_of_lt_succ hk) with hk | rfl
  rotate_left
  · exact q12
  rcases Nat.lt_or_eq_of_le (Nat.le_of_lt_succ hk) with hk | rfl
  rotate_left
  · exact q11
  rcases Nat.lt_or_eq_of_le (Nat.le_of_lt_succ hk) with hk | rfl
  rotate_left
  · exact q10
  rcases Nat.lt_or_eq_of_le (Nat.le_of_lt_succ hk) with hk | rfl
  rotate_left
  · exact q9
  rcases Nat.lt_or_eq_of_le (Nat.le_of_lt_succ hk) with hk | rfl
  rotate_left
  · exact q8
  rcases Nat.lt_or_eq_of_le (Nat.le_of_lt_succ hk) with hk | rfl
  rotate_left
  · exact q7
  rcases Nat.lt_or_eq_of_le (Nat.le_of_lt_succ hk) with hk | rfl
  rotate_left
  · exact q6
  rcases Nat.lt_or_eq_of_le (Nat.le_of_lt_succ hk) with hk | rfl
  rotate_left
  · exact q5
  rcases Nat.lt_or_eq_of_le (Nat.le_of_lt_succ hk) with hk | rfl
  rotate_left
  · exact q4
  rcases Nat.lt_or_eq_of_le (Nat.le_of_lt_succ hk) with hk | rfl
  rotate_left
  · exact q3
  rcases Nat.lt_or_eq_of_le (Nat.le_of_lt_succ hk) with hk | rfl
  rotate_left
  · exact q2
  rcases Nat.lt_or_eq_of_le (Nat.le_of_lt_succ hk) with hk | rfl
  rotate_left
  · exact q1
  obtain rfl : k = 0 := by omega
  exact q0
theorem sw_out16 {x : Int32} (q0 : ¬ x = 0) (q1 : ¬ x = 1) (q2 : ¬ x = 2) (q3 : ¬ x = 3) (q4 : ¬ x = 4) (q5 : ¬ x = 5) (q6 : ¬ x = 6) (q7 : ¬ x = 7) (q8 : ¬ x = 8) (q9 : ¬ x = 9) (q10 : ¬ x = 10) (q11 : ¬ x = 11) (q12 : ¬ x = 12) (q13 : ¬ x = 13) (q14 : ¬ x = 14) (q15 : ¬ x = 15) : x.toInt < 0 ∨ 15 < x.toInt := by
  refine (sw_core (x := x) (n := 16) (by decide) (fun k hk => ?_)).imp id (fun h => by omega)
  rcases Nat.lt_or_eq_of_le (Nat.le_of_lt_succ hk) with hk | rfl
  rotate_left
  · exact q15
  rcases Nat.lt_or_eq_of_le (Nat.le_of_lt_succ hk) with hk | rfl
  rotate_left
  · exact q14
  rcases Nat.lt_or_eq_of_le (Nat.le_of_lt_succ hk) with hk | rfl
  rotate_left
  · exact q13
  rcases Nat.lt_or_eq_of_le (Nat.le_of_lt_succ hk) with hk | rfl
  rotate_left
  · exact q12
  rcases Nat.lt_or_eq_of_le (Nat.le_of_lt_succ hk) with hk | rfl
  rotate_left
  · exact q11
  rcases Nat.lt_or_eq_of_le (Nat.le_of_lt_succ hk) with hk | rfl
  rotate_left
  · exact q10
  rcases Nat.lt_or_eq_of_le (Nat.le_of_lt_succ hk) with hk | rfl
  rotate_left
  · exact q9
  rcases Nat.lt_or_eq_of_le (Nat.le_of_lt_succ hk) with hk | rfl
  rotate_left
  · exact q8
  rcases Nat.lt_or_eq_of_le (Nat.le_of_lt_succ hk) with hk | rfl
  rotate_left
  · exact q7
  rcases Nat.lt_or_eq_of_le (Nat.le_of_lt_succ hk) with hk | rfl
  rotate_left
  · exact q6
  rcases Nat.lt_or_eq_of_le (Nat.le_of_lt_succ hk) with hk | rfl
  rotate_left
  · exact q5
  rcases Nat.lt_or_eq_of_le (Nat.le_of_lt_succ hk) with hk | rfl
  rotate_left
  · exact q4
  rcases Nat.lt_or_eq_of_le (Nat.le_of_lt_succ hk) with hk | rfl
  rotate_left
  · exact q3
  rcases Nat.lt_or_eq_of_le (Nat.le_of_lt_succ hk) with hk | rfl
  rotate_left
  · exact q2
  rcases Nat.lt_or_eq_of_le (Nat.le_of_lt_succ hk) with hk | rfl
  rotate_left
  · exact q1
  obtain rfl : k = 0 := by omega
  exact q0
theorem sw_out17 {x : Int32} (q0 : ¬ x = 0) (q1 : ¬ x = 1) (q2 : ¬ x = 2) (q3 : ¬ x = 3) (q4 : ¬ x = 4) (q5 : ¬ x = 5) (q6 : ¬ x = 6) (q7 : ¬ x = 7) (q8 : ¬ x = 8) (q9 : ¬ x = 9) (q10 : ¬ x = 10) (q11 : ¬ x = 11) (q12 : ¬ x = 12) (q13 : ¬ x = 13) (q14 : ¬ x = 14) (q15 : ¬ x = 15) (q16 : ¬ x = 16) : x.toInt < 0 ∨ 16 < x.toInt := by
  refine (sw_core (x := x) (n := 17) (by decide) (fun k hk => ?_)).imp id (fun h => by omega)
  rcases Nat.lt_or_eq_of_le (Nat.le_of_lt_succ hk) with hk | rfl
  rotate_left
  · exact q16
  rcases Nat.lt_or_eq_of_le (Nat.le_of_lt_succ hk) with hk | rfl
  rotate_left
  · exact q15
  rcases Nat.lt_or_eq_of_le (Nat.le_of_lt_succ hk) with hk | rfl
  rotate_left
  · exact q14
  rcases Nat.lt_or_eq_of_le (Nat.le_of_lt_succ hk) with hk | rfl
  rotate_left
  · exact q13
  rcases Nat.lt_or_eq_of_le (Nat.le_of_lt_succ hk) with hk | rfl
  rotate_left
  · exact q12
  rcases Nat.lt_or_eq_of_le (Nat.le_of_lt_succ hk) with hk | rfl
  rotate_left
  · exact q11
  rcases Nat.lt_or_eq_of_le (Nat.le_of_lt_succ hk) with hk | rfl
  rotate_left
  · exact q10
  rcases Nat.lt_or_eq_of_le (Nat.le_of_lt_succ hk) with hk | rfl
  rotate_left
  · exact q9
  rcases Nat.lt_or_eq_of_le (Nat.le_of_lt_succ hk) with hk | rfl
  rotate_left
  · exact q8
  rcases Nat.lt_or_eq_of_le (Nat.le_of_lt_succ hk) with hk | rfl
  rotate_left
  · exact q7
  rcases Nat.lt_or_eq_of_le (Nat.le_of_lt_succ hk) with hk | rfl
  rotate_left
  · exact q6
  rcases Nat.lt_or_eq_of_le (Nat.le_of_lt_succ hk) with hk | rfl
  rotate_left
  · exact q5
  rcases Nat.lt_or_eq_of_le (Nat.le_of_lt_succ hk) with hk | rfl
  rotate_left
  · exact q4
  rcases Nat.lt_or_eq_of_le (Nat.le_of_lt_succ hk) with hk | rfl
  rotate_left
  · exact q3
  rcases Nat.lt_or_eq_of_le (Nat.le_of_lt_succ hk) with hk | rfl
  rotate_left
  · exact q2
  rcases Nat.lt_or_eq_of_le (Nat.le_of_lt_succ hk) with hk | rfl
  rotate_left
  · exact q1
  obtain rfl : k = 0 := by omega
  exact q0
theorem sw_out18 {x : Int32} (q0 : ¬ x = 0) (q1 : ¬ x = 1) (q2 : ¬ x = 2) (q3 : ¬ x = 3) (q4 : ¬ x = 4) (q5 : ¬ x = 5) (q6 : ¬ x = 6) (q7 : ¬ x = 7) (q8 : ¬ x = 8) (q9 : ¬ x = 9) (q10 : ¬ x = 10) (q11 : ¬ x = 11) (q12 : ¬ x = 12) (q13 : ¬ x = 13) (q14 : ¬ x = 14) (q15 : ¬ x = 15) (q16 : ¬ x = 16) (q17 : ¬ x = 17) : x.toInt < 0 ∨ 17 < x.toInt := by
  refine (sw_core (x := x) (n := 18) (by decide) (fun k hk => ?_)).imp id (fun h => by omega)
  rcases Nat.lt_or_eq_of_le (Nat.le_of_lt_succ hk) with hk | rfl
  rotate_left
  · exact q17
  rcases Nat.lt_or_eq_of_le (Nat.le_of_lt_succ hk) with hk | rfl
  rotate_left
  · exact q16
  rcases Nat.lt_or_eq_of_le (Nat.le_of_lt_succ hk) with hk | rfl
  rotate_left
  · exact q15
  rcases Nat.lt_or_eq_of_le (Nat.le_of_lt_succ hk) with hk | rfl
  rotate_left
  · exact q14
  rcases Nat.lt_or_eq_of_le (Nat.le_of_lt_succ hk) with hk | rfl
  rotate_left
  · exact q13
  rcases Nat.lt_or_eq_of_le (Nat.le_of_lt_succ hk) with hk | rfl
  rotate_left
  · exact q12
  rcases Nat.lt_or_eq_of_le (Nat.le_of_lt_succ hk) with hk | rfl
  rotate_left
  · exact q11
  rcases Nat.lt_or_eq_of_le (Nat.le_of_lt_succ hk) with hk | rfl
  rotate_left
  · exact q10
  rcases Nat.lt_or_eq_of_le (Nat.le_of_lt_succ hk) with hk | rfl
  rotate_left
  · exact q9
  rcases Nat.lt_or_eq_of_le (Nat.le_of_lt_succ hk) with hk | rfl
  rotate_left
  · exact q8
  rcases Nat.lt_or_eq_of_le (Nat.le_of_lt_succ hk) with hk | rfl
  rotate_left
  · exact q7
  rcases Nat.lt_or_eq_of_le (Nat.le_of_lt_succ hk) with hk | rfl
  rotate_left
  · exact q6
  rcases Nat.lt_or_eq_of_le (Nat.le_of_lt_succ hk) with hk | rfl
  rotate_left
  · exact q5
  rcases Nat.lt_or_eq_of_le (Nat.le_of_lt_succ hk) with hk | rfl
  rotate_left
  · exact q4
  rcases Nat.lt_or_eq_of_le (Nat.le_of_lt_succ hk) with hk | rfl
  rotate_left
  · exact q3
  rcases Nat.lt_or_eq_of_le (Nat.le_of_lt_succ hk) with hk | rfl
  rotate_left
  · exact q2
  rcases Nat.lt_or_eq_of_le (Nat.le_of_lt_succ hk) with hk | rfl
  rotate_left
  · exact q1
  obtain rfl : k = 0 := by omega
  exact q0
theorem sw_out19 {x : Int32} (q0 : ¬ x = 0) (q1 : ¬ x = 1) (q2 : ¬ x = 2) (q3 : ¬ x = 3) (q4 : ¬ x = 4) (q5 : ¬ x = 5) (q6 : ¬ x = 6) (q7 : ¬ x = 7) (q8 : ¬ x = 8) (q9 : ¬ x = 9) (q10 : ¬ x = 10) (q11 : ¬ x = 11) (q12 : ¬ x = 12) (q13 : ¬ x = 13) (q14 : ¬ x = 14) (q15 : ¬ x = 15) (q16 : ¬ x = 16) (q17 : ¬ x = 17) (q18 : ¬ x = 18) : x.toInt < 0 ∨ 18 < x.toInt := by
  refine (sw_core (x := x) (n := 19) (by decide) (fun k hk => ?_)).imp id (fun h => by omega)
  rcases Nat.lt_or_eq_of_le (Nat.le_of_lt_succ hk) with hk | rfl
  rotate_left
  · exact q18
  rcases Nat.lt_or_eq_of_le (Nat.le_of_lt_succ hk) with hk | rfl
  rotate_left
  · exact q17
  rcases Nat.lt_or_eq_of_le (Nat.le_of_lt_succ hk) with hk | rfl
  rotate_left
  · exact q16
  rcases Nat.lt_or_eq_of_le (Nat.le_of_lt_succ hk) with hk | rfl
  rotate_left
  · exact q15
  rcases Nat.lt_or_eq_of_le (Nat.le_of_lt_succ hk) with hk | rfl
  rotate_left
  · exact q14
  rcases Nat.lt_or_eq_of_le (Nat.le_of_lt_succ hk) with hk | rfl
  rotate_left
  · exact q13
  rcases Nat.lt_or_eq_of_le (Nat.le_of_lt_succ hk) with hk | rfl
  rotate_left
  · exact q12
  rcases Nat.lt_or_eq_of_le (Nat.le_of_lt_succ hk) with hk | rfl
  rotate_left
  · exact q11
  rcases Nat.lt_or_eq_of_le (Nat.le_of_lt_succ hk) with hk | rfl
  rotate_left
  · exact q10
  rcases Nat.lt_or_eq_of_le (Nat.le_of_lt_succ hk) with hk | rfl
  rotate_left
  · exact q9
  rcases Nat.lt_or_eq_of_le (Nat.le_of_lt_succ hk) with hk | rfl
  rotate_left
  · exact q8
  rcases Nat.lt_or_eq_of_le (Nat.le_of_lt_succ hk) with hk | rfl
  rotate_left
  · exact q7
  rcases Nat.lt_or_eq_of_le (Nat.le_of_lt_succ hk) with hk | rfl
  rotate_left
  · exact q6
  rcases Nat.lt_or_eq_of_le (Nat.le_of_lt_succ hk) with hk | rfl
  rotate_left
  · exact q5
  rcases Nat.lt_or_eq_of_le (Nat.le_of_lt_succ hk) with hk | rfl
  rotate_left
  · exact q4
  rcases Nat.lt_or_eq_of_le (Nat.le_of_lt_succ hk) with hk | rfl
  rotate_left
  · exact q3
  rcases Nat.lt_or_eq_of_le (Nat.le_of_lt_succ hk) with hk | rfl
  rotate_left
  · exact q2
  rcases Nat.lt_or_eq_of_le (Nat.le_of_lt_succ hk) with hk | rfl
  rotate_left
  · exact q1
  obtain rfl : k = 0 := by omega
  exact q0
theorem sw_out20 {x : Int32} (q0 : ¬ x = 0) (q1 : ¬ x = 1) (q2 : ¬ x = 2) (q3 : ¬ x = 3) (q4 : ¬ x = 4) (q5 : ¬ x = 5) (q6 : ¬ x = 6) (q7 : ¬ x = 7) (q8 : ¬ x = 8) (q9 : ¬ x = 9) (q10 : ¬ x = 10) (q11 : ¬ x = 11) (q12 : ¬ x = 12) (q13 : ¬ x = 13) (q14 : ¬ x = 14) (q15 : ¬ x = 15) (q16 : ¬ x = 16) (q17 : ¬ x = 17) (q18 : ¬ x = 18) (q19 : ¬ x = 19) : x.toInt < 0 ∨ 19 < x.toInt := by
  refine (sw_core (x := x) (n := 20) (by decide) (fun k hk => ?_)).imp id (fun h => by omega)
  rcases Nat.lt_or_eq_of_le (Nat.le_of_lt_succ hk) with hk | rfl
  rotate_left
  · exact q19
  rcases Nat.lt_or_eq_of_le (Nat.le_of_lt_succ hk) with hk | rfl
  rotate_left
  · exact q18
  rcases Nat.lt_or_eq_of_le (Nat.le_of_lt_succ hk) with hk | rfl
  rotate_left
  · exact q17
  rcases Nat.lt_or_eq_of_le (Nat.le_of_lt_succ hk) with hk | rfl
  rotate_left
  · exact q16
  rcases Nat.lt_or_eq_of_le (Nat.le_of_lt_succ hk) with hk | rfl
  rotate_left
  · exact q15
  rcases Nat.lt_or_eq_of_le (Nat.le_of_lt_succ hk) with hk | rfl
  rotate_left
  · exact q14
  rcases Nat.lt_or_eq_of_le (Nat.le_of_lt_succ hk) with hk | rfl
  rotate_left
  · exact q13
  rcases Nat.lt_or_eq_of_le (Nat.le_of_lt_succ hk) with hk | rfl
  rotate_left
  · exact q12
  rcases Nat.lt_or_eq_of_le (Nat.le_of_lt_succ hk) with hk | rfl
  rotate_left
  · exact q11
  rcases Nat.lt_or_eq_of_le (Nat.le_of_lt_succ hk) with hk | rfl
  rotate_left
  · exact q10
  rcases Nat.lt_or_eq_of_le (Nat.le_of_lt_succ hk) with hk | rfl
  rotate_left
  · exact q9
  rcases Nat.lt_or_eq_of_le (Nat.le_of_lt_succ hk) with hk | rfl
  rotate_left
  · exact q8
  rcases Nat.lt_or_eq_of_le (Nat.le_of_lt_succ hk) with hk | rfl
  rotate_left
  · exact q7
  rcases Nat.lt_or_eq_of_le (Nat.le_of_lt_succ hk) with hk | rfl
  rotate_left
  · exact q6
  rcases Nat.lt_or_eq_of_le (Nat.le_of_lt_succ hk) with hk | rfl
  rotate_left
  · exact q5
  rcases Nat.lt_or_eq_of_le (Nat.le_of_lt_succ hk) with hk | rfl
  rotate_left
  · exact q4
  rcases Nat.lt_or_eq_of_le (Nat.le_of_lt_succ hk) with hk | rfl
  rotate_left
  · exact q3
  rcases Nat.lt_or_eq_of_le (Nat.le_of_lt_succ hk) with hk | rfl
  rotate_left
  · exact q2
  rcases Nat.lt_or_eq_of_le (Nat.le_of_lt_succ hk) with hk | rfl
  rotate_left
  · exact q1
  obtain rfl : k = 0 := by omega
  exact q0
theorem sw_out21 {x : Int32} (q0 : ¬ x = 0) (q1 : ¬ x = 1) (q2 : ¬ x = 2) (q3 : ¬ x = 3) (q4 : ¬ x = 4) (q5 : ¬ x = 5) (q6 : ¬ x = 6) (q7 : ¬ x = 7) (q8 : ¬ x = 8) (q9 : ¬ x = 9) (q10 : ¬ x = 10) (q11 : ¬ x = 11) (q12 : ¬ x = 12) (q13 : ¬ x = 13) (q14 : ¬ x = 14) (q15 : ¬ x = 15) (q16 : ¬ x = 16) (q17 : ¬ x = 17) (q18 : ¬ x = 18) (q19 : ¬ x = 19) (q20 : ¬ x = 20) : x.toInt < 0 ∨ 20 < x.toInt := by
  refine (sw_core (x := x) (n := 21) (by decide) (fun k hk => ?_)).imp id (fun h => by omega)
  rcases Nat.lt_or_eq_of_le (Nat.le_of_lt_succ hk) with hk | rfl
  rotate_left
  · exact q20
  rcases Nat.lt_or_eq_of_le (Nat.le_of_lt_succ hk) with hk | rfl
  rotate_left
  · exact q19
  rcases Nat.lt_or_eq_of_le (Nat.le_of_lt_succ hk) with hk | rfl
  rotate_left
  · exact q18
  rcases Nat.lt_or_eq_of_le (Nat.le_of_lt_succ hk) with hk | rfl
  rotate_left
  · exact q17
  rcases Nat.lt_or_eq_of_le (Nat.le_of_lt_succ hk) with hk | rfl
  rotate_left
  · exact q16
  rcases Nat.lt_or_eq_of_le (Nat.le_of_lt_succ hk) with hk | rfl
  rotate_left
  · exact q15
  rcases Nat.lt_or_eq_of_le (Nat.le_of_lt_succ hk) with hk | rfl
  rotate_left
  · exact q14
  rcases Nat.lt_or_eq_of_le (Nat.le_of_lt_succ hk) with hk | rfl
  rotate_left
  · exact q13
  rcases Nat.lt_or_eq_of_le (Nat.le_of_lt_succ hk) with hk | rfl
  rotate_left
  · exact q12
  rcases Nat.lt_or_eq_of_le (Nat.le_of_lt_succ hk) with hk | rfl
  rotate_left
  · exact q11
  rcases Nat.lt_or_eq_of_le (Nat.le_of_lt_succ hk) with hk | rfl
  rotate_left
  · exact q10
  rcases Nat.lt_or_eq_of_le (Nat.le_of_lt_succ hk) with hk | rfl
  rotate_left
  · exact q9
  rcases Nat.lt_or_eq_of_le (Nat.le_of_lt_succ hk) with hk | rfl
  rotate_left
  · exact q8
  rcases Nat.lt_or_eq_of_le (Nat.le_of_lt_succ hk) with hk | rfl
  rotate_left
  · exact q7
  rcases Nat.lt_or_eq_of_le (Nat.le_of_lt_succ hk) with hk | rfl
  rotate_left
  · exact q6
  rcases Nat.lt_or_eq_of_le (Nat.le_of_lt_succ hk) with hk | rfl
  rotate_left
  · exact q5
  rcases Nat.lt_or_eq_of_le (Nat.le_of_lt_succ hk) with hk | rfl
  rotate_left
  · exact q4
  rcases Nat.lt_or_eq_of_le (Nat.le_of_lt_succ hk) with hk | rfl
  rotate_left
  · exact q3
  rcases Nat.lt_or_eq_of_le (Nat.le_of_lt_succ hk) with hk | rfl
  rotate_left
  · exact q2
  rcases Nat.lt_or_eq_of_le (Nat.le_of_lt_succ hk) with hk | rfl
  rotate_left
  · exact q1
  obtain rfl : k = 0 := by omega
  exact q0
theorem sw_out22 {x : Int32} (q0 : ¬ x = 0) (q1 : ¬ x = 1) (q2 : ¬ x = 2) (q3 : ¬ x = 3) (q4 : ¬ x = 4) (q5 : ¬ x = 5) (q6 : ¬ x = 6) (q7 : ¬ x = 7) (q8 : ¬ x = 8) (q9 : ¬ x = 9) (q10 : ¬ x = 10) (q11 : ¬ x = 11) (q12 : ¬ x = 12) (q13 : ¬ x = 13) (q14 : ¬ x = 14) (q15 : ¬ x = 15) (q16 : ¬ x = 16) (q17 : ¬ x = 17) (q18 : ¬ x = 18) (q19 : ¬ x = 19) (q20 : ¬ x = 20) (q21 : ¬ x = 21) : x.toInt < 0 ∨ 21 < x.toInt := by
  refine (sw_core (x := x) (n := 22) (by decide) (fun k hk => ?_)).imp id (fun h => by omega)
  rcases Nat.lt_or_eq_of_le (Nat.le_of_lt_succ hk) with hk | rfl
  rotate_left
  · exact q21
  rcases Nat.lt_or_eq_of_le (Nat.le_of_lt_succ hk) with hk | rfl
  rotate_left
  · exact q20
  rcases Nat.lt_or_eq_of_le (Nat.le_of_lt_succ hk) with hk | rfl
  rotate_left
  · exact q19
  rcases Nat.lt_or_eq_of_le (Nat.le_of_lt_succ hk) with hk | rfl
  rotate_left
  · exact q18
  rcases Nat.lt_or_eq_of_le (Nat.le_of_lt_succ hk) with hk | rfl
  rotate_left
  · exact q17
  rcases Nat.lt_or_eq_of_le (Nat.le_of_lt_succ hk) with hk | rfl
  rotate_left
  · exact q16
  rcases Nat.lt_or_eq_of_le (Nat.le_of_lt_succ hk) with hk | rfl
  rotate_left
  · exact q15
  rcases Nat.lt_or_eq_of_le (Nat.le_of_lt_succ hk) with hk | rfl
  rotate_left
  · exact q14
  rcases Nat.lt_or_eq_of_le (Nat.le_of_lt_succ hk) with hk | rfl
  rotate_left
  · exact q13
  rcases Nat.lt_or_eq_of_le (Nat.le_of_lt_succ hk) with hk | rfl
  rotate_left
  · exact q12
  rcases Nat.lt_or_eq_of_le (Nat.le_of_lt_succ hk) with hk | rfl
  rotate_left
  · exact q11
  rcases Nat.lt_or_eq_of_le (Nat.le_of_lt_succ hk) with hk | rfl
  rotate_left
  · exact q10
  rcases Nat.lt_or_eq_of_le (Nat.le_of_lt_succ hk) with hk | rfl
  rotate_left
  · exact q9
  rcases Nat.lt_or_eq_of_le (Nat.le_of_lt_succ hk) with hk | rfl
  rotate_left
  · exact q8
  rcases Nat.lt_or_eq_of_le (Nat.le_of_lt_succ hk) with hk | rfl
  rotate_left
  · exact q7
  rcases Nat.lt_or_eq_of_le (Nat.le_of_lt_succ hk) with hk | rfl
  rotate_left
  · exact q6
  rcases Nat.lt_or_eq_of_le (Nat.le_of_lt_succ hk) with hk | rfl
  rotate_left
  · exact q5
  rcases Nat.lt_or_eq_of_le (Nat.le_of_lt_succ hk) with hk | rfl
  rotate_left
  · exact q4
  rcases Nat.lt_or_eq_of_le (Nat.le_of_lt_succ hk) with hk | rfl
  rotate_left
  · exact q3
  rcases Nat.lt_or_eq_of_le (Nat.le_of_lt_succ hk) with hk | rfl
  rotate_left
  · exact q2
  rcases Nat.lt_or_eq_of_le (Nat.le_of_lt_succ hk) with hk | rfl
  rotate_left
  · exact q1
  obtain rfl : k = 0 := by omega
  exact q0
theorem sw_out23 {x : Int32} (q0 : ¬ x = 0) (q1 : ¬ x = 1) (q2 : ¬ x = 2) (q3 : ¬ x = 3) (q4 : ¬ x = 4) (q5 : ¬ x = 5) (q6 : ¬ x = 6) (q7 : ¬ x = 7) (q8 : ¬ x = 8) (q9 : ¬ x = 9) (q10 : ¬ x = 10) (q11 : ¬ x = 11) (q12 : ¬ x = 12) (q13 : ¬ x = 13) (q14 : ¬ x = 14) (q15 : ¬ x = 15) (q16 : ¬ x = 16) (q17 : ¬ x = 17) (q18 : ¬ x = 18) (q19 : ¬ x = 19) (q20 : ¬ x = 20) (q21 : ¬ x = 21) (q22 : ¬ x = 22) : x.toInt < 0 ∨ 22 < x.toInt := by
  refine (sw_core (x := x) (n := 23) (by decide) (fun k hk => ?_)).imp id (fun h => by omega)
  rcases Nat.lt_or_eq_of_le (Nat.le_of_lt_succ hk) with hk | rfl
  rotate_left
  · exact q22
  rcases Nat.lt_or_eq_of_le (Nat.le_of_lt_succ hk) with hk | rfl
  rotate_left
  · exact q21
  rcases Nat.lt_or_eq_of_le (Nat.le_of_lt_succ hk) with hk | rfl
  rotate_left
  · exact q20
  rcases Nat.lt_or_eq_of_le (Nat.le_of_lt_succ hk) with hk | rfl
  rotate_left
  · exact q19
  rcases Nat.lt_or_eq_of_le (Nat.le_of_lt_succ hk) with hk | rfl
  rotate_left
  · exact q18
  rcases Nat.lt_or_eq_of_le (Nat.le_of_lt_succ hk) with hk | rfl
  rotate_left
  · exact q17
  rcases Nat.lt_or_eq_of_le (Nat.le_of_lt_succ hk) with hk | rfl
  rotate_left
  · exact q16
  rcases Nat.lt_or_eq_of_le (Nat.le_of_lt_succ hk) with hk | rfl
  rotate_left
  · exact q15
  rcases Nat.lt_or_eq_of_le (Nat.le_of_lt_succ hk) with hk | rfl
  rotate_left
  · exact q14
  rcases Nat.lt_or_eq_of_le (Nat.le_of_lt_succ hk) with hk | rfl
  rotate_left
  · exact q13
  rcases Nat.lt_or_eq_of_le (Nat.le_of_lt_succ hk) with hk | rfl
  rotate_left
  · exact q12
  rcases Nat.lt_or_eq_of_le (Nat.le_of_lt_succ hk) with hk | rfl
  rotate_left
  · exact q11
  rcases Nat.lt_or_eq_of_le (Nat.le_of_lt_succ hk) with hk | rfl
  rotate_left
  · exact q10
  rcases Nat.lt_or_eq_of_le (Nat.le_of_lt_succ hk) with hk | rfl
  rotate_left
  · exact q9
  rcases Nat.lt_or_eq_of_le (Nat.le_of_lt_succ hk) with hk | rfl
  rotate_left
  · exact q8
  rcases Nat.lt_or_eq_of_le (Nat.le_of_lt_succ hk) with hk | rfl
  rotate_left
  · exact q7
  rcases Nat.lt_or_eq_of_le (Nat.le_of_lt_succ hk) with hk | rfl
  rotate_left
  · exact q6
  rcases Nat.lt_or_eq_of_le (Nat.le_of_lt_succ hk) with hk | rfl
  rotate_left
  · exact q5
  rcases Nat.lt_or_eq_of_le (Nat.le_of_lt_succ hk) with hk | rfl
  rotate_left
  · exact q4
  rcases Nat.lt_or_eq_of_le (Nat.le_of_lt_succ hk) with hk | rfl
  rotate_left
  · exact q3
  rcases Nat.lt_or_eq_of_le (Nat.le_of_lt_succ hk) with hk | rfl
  rotate_left
  · exact q2
  rcases Nat.lt_or_eq_of_le (Nat.le_of_lt_succ hk) with hk | rfl
  rotate_left
  · exact q1
  obtain rfl : k = 0 := by omega
  exact q0
theorem sw_out24 {x : Int32} (q0 : ¬ x = 0) (q1 : ¬ x = 1) (q2 : ¬ x = 2) (q3 : ¬ x = 3) (q4 : ¬ x = 4) (q5 : ¬ x = 5) (q6 : ¬ x = 6) (q7 : ¬ x = 7) (q8 : ¬ x = 8) (q9 : ¬ x = 9) (q10 : ¬ x = 10) (q11 : ¬ x = 11) (q12 : ¬ x = 12) (q13 : ¬ x = 13) (q14 : ¬ x = 14) (q15 : ¬ x = 15) (q16 : ¬ x = 16) (q17 : ¬ x = 17) (q18 : ¬ x = 18) (q19 : ¬ x = 19) (q20 : ¬ x = 20) (q21 : ¬ x = 21) (q22 : ¬ x = 22) (q23 : ¬ x = 23) : x.toInt < 0 ∨ 23 < x.toInt := by
  refine (sw_core (x := x) (n := 24) (by decide) (fun k hk => ?_)).imp id (fun h => by omega)
  rcases Nat.lt_or_eq_of_le (Nat.le_of_lt_succ hk) with hk | rfl
  rotate_left
  · exact q23
  rcases Nat.lt_or_eq_of_le (Nat.le_of_lt_succ hk) with hk | rfl
  rotate_left
  · exact q22
  rcases Nat.lt_or_eq_of_le (Nat.le_of_lt_succ hk) with hk | rfl
  rotate_left
  · exact q21
  rcases Nat.lt_or_eq_of_le (Nat.le_of_lt_succ hk) with hk | rfl
  rotate_left
  · exact q20
  rcases Nat.lt_or_eq_of_le (Nat.le_of_lt_succ hk) with hk | rfl
  rotate_left
  · exact q19
  rcases Nat.lt_or_eq_of_le (Nat.le_of_lt_succ hk) with hk | rfl
  rotate_left
  · exact q18
  rcases Nat.lt_or_eq_of_le (Nat.le_of_lt_succ hk) with hk | rfl
  rotate_left
  · exact q17
  rcases Nat.lt_or_eq_of_le (Nat.le_of_lt_succ hk) with hk | rfl
  rotate_left
  · exact q16
  rcases Nat.lt_or_eq_of_le (Nat.le_of_lt_succ hk) with hk | rfl
  rotate_left
  · exact q15
  rcases Nat.lt_or_eq_of_le (Nat.le_of_lt_succ hk) with hk | rfl
  rotate_left
  · exact q14
  rcases Nat.lt_or_eq_of_le (Nat.le_of_lt_succ hk) with hk | rfl
  rotate_left
  · exact q13
  rcases Nat.lt_or_eq_of_le (Nat.le_of_lt_succ hk) with hk | rfl
  rotate_left
  · exact q12
  rcases Nat.lt_or_eq_of_le (Nat.le_of_lt_succ hk) with hk | rfl
  rotate_left
  · exact q11
  rcases Nat.lt_or_eq_of_le (Nat.le_of_lt_succ hk) with hk | rfl
  rotate_left
  · exact q10
  rcases Nat.lt_or_eq_of_le (Nat.le_of_lt_succ hk) with hk | rfl
  rotate_left
  · exact q9
  rcases Nat.lt_or_eq_of_le (Nat.le_of_lt_succ hk) with hk | rfl
  rotate_left
  · exact q8
  rcases Nat.lt_or_eq_of_le (Nat.le_of_lt_succ hk) with hk | rfl
  rotate_left
  · exact q7
  rcases Nat.lt_or_eq_of_le (Nat.le_of_lt_succ hk) with hk | rfl
  rotate_left
  · exact q6
  rcases Nat.lt_or_eq_of_le (Nat.le_of_lt_succ hk) with hk | rfl
  rotate_left
  · exact q5
  rcases Nat.lt_or_eq_of_le (Nat.le_of_lt_succ hk) with hk | rfl
  rotate_left
  · exact q4
  rcases Nat.lt_or_eq_of_le (Nat.le_of_lt_succ hk) with hk | rfl
  rotate_left
  · exact q3
  rcases Nat.lt_or_eq_of_le (Nat.le_of_lt_succ hk) with hk | rfl
  rotate_left
  · exact q2
  rcases Nat.lt_or_eq_of_le (Nat.le_of_lt_succ hk) with hk | rfl
  rotate_left
  · exact q1
  obtain rfl : k = 0 := by omega
  exact q0
