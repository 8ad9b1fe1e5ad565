/-! SUMS -/
theorem i_add4 (a b c d : Int32) : (a + b) + (c + d) = (a + c) + (b + d) := by
  apply Int32.toBitVec_inj.mp
  simp only [Int32.toBitVec_add]
  bv_omega
theorem i_0 (a : Int32) : a + 0 = a := by
  apply Int32.toBitVec_inj.mp
  simp only [Int32.toBitVec_add]
  show a.toBitVec + 0#32 = a.toBitVec
  bv_omega
theorem i_z (a : Int32) : 0 + a = a := by
  apply Int32.toBitVec_inj.mp
  simp only [Int32.toBitVec_add]
  show 0#32 + a.toBitVec = a.toBitVec
  bv_omega
theorem sI_add {f h : Nat → Int32} : ∀ {n : Nat}, sI (fun k => f k + h k) n = sI f n + sI h n
  | 0 => (i_0 0).symm
  | n + 1 => by rw [sI, sI, sI, sI_add (n := n), i_add4]
theorem sI_0 : ∀ {n : Nat}, sI (fun _ => 0) n = 0
  | 0 => rfl
  | n + 1 => by rw [sI, sI_0 (n := n)]; exact i_0 0
theorem sI_zero {f : Nat → Int32} {n : Nat} (h : ∀ k, k < n → f k = 0) : sI f n = 0 := (sI_congr h).trans sI_0
theorem sI_swap {f : Nat → Nat → Int32} {b : Nat} : ∀ {a : Nat}, sI (fun i => sI (f i) b) a = sI (fun j => sI (fun i => f i j) a) b
  | 0 => sI_0.symm
  | a + 1 => by
    rw [sI, sI_swap (a := a), ← sI_add]
    rfl
theorem sI_only {f : Nat → Int32} : ∀ {n k : Nat}, k < n → (∀ j, j < n → j ≠ k → f j = 0) → sI f n = f k
  | 0, _, h, _ => by omega
  | n + 1, k, h, o => by
    rw [sI]
    by_cases e : k = n
    · subst e
      rw [sI_zero fun j hj => o j (by omega) (by omega)]
      exact i_z _
    · rw [sI_only (n := n) (k := k) (by omega) fun j hj hk => o j (by omega) hk, o n (by omega) (fun y => e y.symm)]
      exact i_0 _
/-- counts as sums -/
theorem sI_cN {p : Nat → Bool} : ∀ {n : Nat}, sI (fun k => if p k then 1 else 0) n = nI (cN p n)
  | 0 => rfl
  | n + 1 => by
    rw [sI, cN, sI_cN (n := n)]
    cases p n with
    | true => simp only [if_true]; exact nI_1 _
    | false => simp only [Bool.false_eq_true, if_false]; exact i_0 _
theorem cN_step {p : Nat → Bool} {n : Nat} {x : Int32} (h : x = if p n then 1 else 0) : nI (cN p n) + x = nI (cN p (n + 1)) := by
  rw [← sI_cN, ← sI_cN, sI, h]
/-- all cells, an examiner after another -/
theorem sI_quad {f : Nat → Int32} : ∀ {n : Nat}, sI f (4 * n) = sI (fun e => sI (fun k => f (4 * k + e)) n) 4
  | 0 => (sI_0 (n := 4)).symm
  | n + 1 => by
    have ih := sI_quad (f := f) (n := n)
    have e1 : sI f (4 * (n + 1)) = sI f (4 * n) + f (4 * n + 0) + f (4 * n + 1) + f (4 * n + 2) + f (4 * n + 3) := rfl
    have e2 : sI (fun e => sI (fun k => f (4 * k + e)) (n + 1)) 4 = sI (fun e => sI (fun k => f (4 * k + e)) n) 4 + sI (fun e => f (4 * n + e)) 4 := sI_add
    have e3 : sI (fun e => f (4 * n + e)) 4 = 0 + f (4 * n + 0) + f (4 * n + 1) + f (4 * n + 2) + f (4 * n + 3) := rfl
    rw [e1, e2, e3, ih]
    apply Int32.toBitVec_inj.mp
    simp only [Int32.toBitVec_add]
    show _ = _ + (0#32 + _ + _ + _ + _)
    bv_omega
theorem sI_more {f : Nat → Int32} {n : Nat} : ∀ {k : Nat}, (∀ j, n ≤ j → j < n + k → f j = 0) → sI f (n + k) = sI f n
  | 0, _ => rfl
  | k + 1, h => by
    show sI f (n + k) + f (n + k) = _
    rw [sI_more (k := k) fun j a b => h j a (by omega), h (n + k) (by omega) (by omega)]
    exact i_0 _
section SM
variable {K E P D : Nat} {τ : Nat → Nat → Nat → Int32}
def cVal (v : Nat → Int32) : Option Nat → Int32
  | none => 0
  | some i => v i
/-- a sum over the pupils' cells is one over all cells -/
theorem pu_sum (h : Iv K E P τ) (v : Nat → Int32) : sI (fun p => cVal v (cCell τ (nI p))) P = sI (fun i => if isPu P (τ 2 0 i) then v i else 0) 160 := by
  have hP := h.P12
  have a : ∀ p, p < P → cVal v (cCell τ (nI p)) = sI (fun i => if τ 2 0 i = nI p then v i else 0) 160 := fun p hp => by
    cases e : cCell τ (nI p) with
    | none => exact (sI_zero fun i hi => if_neg (cCell_none e hi)).symm
    | some i =>
      obtain ⟨hi, ei⟩ := cCell_some e
      rw [sI_only hi fun j hj hji => if_neg (fun y => hji (h.un hp hj hi y ei)), if_pos ei]
      rfl
  have b : ∀ i, i < 160 → (if isPu P (τ 2 0 i) then v i else 0) = sI (fun p => if τ 2 0 i = nI p then v i else 0) P := fun i hi => by
    by_cases y : isPu P (τ 2 0 i) = true
    · obtain ⟨p, hp, ep⟩ := (isPu_iff h hi).mp y
      rw [if_pos y, sI_only hp fun q hq hqp => if_neg (fun z => hqp (nI_i (by omega) (by omega) (ep ▸ z)).symm), if_pos ep]
    · rw [if_neg y]
      exact (sI_zero fun p hp => if_neg fun z => y ((isPu_iff h hi).mpr ⟨p, hp, z⟩)).symm
  rw [sI_congr a, sI_congr b, sI_swap]
/-- how many cells are pupils': by examiners; by those who have a slot -/
theorem held_sum (h : Ww K E P D τ) : sI (fun e => sI (fun k => if isPu P (τ 2 0 (4 * k + e)) then 1 else 0) 40) E = cWho P τ 2 := by
  have hE := h.E4
  have hz : ∀ i, i < 160 → E ≤ i % 4 → isPu P (τ 2 0 i) = false := fun i hi hiE => by
    rw [h.1.1.2.2.2.2.2.2.2.2.1 i hi hiE]
    unfold isPu
    rw [decide_eq_false_iff_not]
    exact fun z => z.1 (by decide)
  have e1 : sI (fun e => sI (fun k => if isPu P (τ 2 0 (4 * k + e)) then (1 : Int32) else 0) 40) 4 = sI (fun e => sI (fun k => if isPu P (τ 2 0 (4 * k + e)) then (1 : Int32) else 0) 40) E := by
    obtain ⟨k, hk⟩ : ∃ k, 4 = E + k := ⟨4 - E, by omega⟩
    have := sI_more (f := fun e => sI (fun k => if isPu P (τ 2 0 (4 * k + e)) then (1 : Int32) else 0) 40) (n := E) (k := k) fun j a b => sI_zero fun q hq => by
      rw [hz (4 * q + j) (by omega) (by omega)]
      rfl
    rw [← hk] at this
    exact this
  rw [← e1, ← sI_quad (f := fun i => if isPu P (τ 2 0 i) then (1 : Int32) else 0) (n := 40)]
  show sI (fun i => if isPu P (τ 2 0 i) then (1 : Int32) else 0) 160 = _
  rw [← pu_sum h.1.1 (fun _ => 1)]
  unfold cWho
  rw [← sI_cN]
  refine sI_congr fun p hp => ?_
  by_cases y : τ 4 p 0 = 2
  · obtain ⟨i, ei⟩ := (h.st2 hp).mp y
    rw [ei, y]
    rfl
  · cases ec : cCell τ (nI p) with
    | none => rw [show decide (τ 4 p 0 = 2) = false from decide_eq_false y]; rfl
    | some i => exact absurd ((h.st2 hp).mpr ⟨i, ec⟩) y
/-- each pupil is idle, waits, has a slot, or has passed -/
theorem four_sum (h : ∀ p, p < P → ∃ v, τ 4 p 0 = nI v ∧ v < 4) : cN (fun p => decide (τ 4 p 0 = 0)) P + cN (fun p => decide (τ 4 p 0 = 1)) P + cN (fun p => decide (τ 4 p 0 = 2)) P + cN (fun p => decide (τ 4 p 0 = 3)) P = P := by
  induction P with
  | zero => rfl
  | succ P ih =>
    have ih := ih fun p hp => h p (by omega)
    have a : ∀ x : Int32, (∃ v, x = nI v ∧ v < 4) → (if decide (x = 0) = true then 1 else 0) + (if decide (x = 1) = true then 1 else 0) + (if decide (x = 2) = true then 1 else 0) + (if decide (x = 3) = true then 1 else 0) = 1 := by
      rintro x ⟨v, rfl, hv4⟩
      match v, hv4 with
      | 0, _ => decide
      | 1, _ => decide
      | 2, _ => decide
      | 3, _ => decide
    have a := a _ (h P (by omega))
    simp only [cN]
    omega
theorem two_sum {f : Nat → Int32} : ∀ {n : Nat}, cN (fun p => decide (f p = 0) || decide (f p = 1)) n = cN (fun p => decide (f p = 0)) n + cN (fun p => decide (f p = 1)) n
  | 0 => rfl
  | n + 1 => by
    simp only [cN]
    rw [two_sum (n := n)]
    have a : ∀ x : Int32, (if (decide (x = 0) || decide (x = 1)) = true then 1 else 0) = (if decide (x = 0) = true then 1 else 0) + (if decide (x = 1) = true then 1 else 0) := by
      intro x
      by_cases a : x = 0
      · subst a; decide
      · by_cases b : x = 1
        · subst b; decide
        · simp [a, b]
    have a := a (f n)
    omega
end SM
/-- places as bits -/
theorem bit_or : ∀ k, k < 12 → ∀ M, M < 4096 → nI M ||| (1 <<< (nI k &&& 31)) = nI (M ||| 2 ^ k) := by
  intro k hk M hM
  have e1 : (1 : Int32) <<< (nI k &&& 31) = nI (2 ^ k) := by
    revert k
    decide +kernel
  rw [e1]
  apply Int32.toBitVec_inj.mp
  rw [Int32.toBitVec_or]
  show BitVec.ofNat 32 M ||| BitVec.ofNat 32 (2 ^ k) = BitVec.ofNat 32 (M ||| 2 ^ k)
  rw [BitVec.ofNat_or]
theorem bit_full : ∀ w, w ≤ 12 → (1 : Int32) <<< (nI w &&& 31) - 1 = nI (2 ^ w - 1) := by
  intro w hw
  have : w < 13 := by omega
  clear hw
  revert w
  decide +kernel
/-- the places that were seen so far -/
def mk (W : Nat → Bool) (f : Nat → Nat) : Nat → Nat
  | 0 => 0
  | n + 1 => if W n then mk W f n ||| 2 ^ f n else mk W f n
theorem mk_bit {W : Nat → Bool} {f : Nat → Nat} {k : Nat} : ∀ {n : Nat}, (mk W f n).testBit k = true ↔ ∃ p, p < n ∧ W p = true ∧ f p = k
  | 0 => by simp [mk]
  | n + 1 => by
    rw [mk]
    by_cases y : W n = true
    · rw [if_pos y, Nat.testBit_or, Bool.or_eq_true, mk_bit (n := n), Nat.testBit_two_pow, decide_eq_true_eq]
      constructor
      · rintro (⟨p, a, b, c⟩ | e)
        · exact ⟨p, by omega, b, c⟩
        · exact ⟨n, by omega, y, e⟩
      · rintro ⟨p, a, b, c⟩
        rcases Nat.lt_succ_iff_lt_or_eq.mp a with z | z
        · exact Or.inl ⟨p, z, b, c⟩
        · subst z; exact Or.inr c
    · rw [if_neg y, mk_bit (n := n)]
      constructor
      · rintro ⟨p, a, b, c⟩; exact ⟨p, by omega, b, c⟩
      · rintro ⟨p, a, b, c⟩
        rcases Nat.lt_succ_iff_lt_or_eq.mp a with z | z
        · exact ⟨p, z, b, c⟩
        · subst z; exact absurd b y
theorem mk_lt {W : Nat → Bool} {f : Nat → Nat} {w : Nat} : ∀ {n : Nat}, (∀ p, p < n → W p = true → f p < w) → mk W f n < 2 ^ w
  | 0, _ => Nat.two_pow_pos w
  | n + 1, h => by
    rw [mk]
    have ih := mk_lt (n := n) (W := W) (f := f) (w := w) fun p hp => h p (by omega)
    by_cases y : W n = true
    · rw [if_pos y]
      exact Nat.or_lt_two_pow ih (Nat.pow_lt_pow_right (by decide) (h n (by omega) y))
    · rw [if_neg y]; exact ih
theorem mk_all {P : Nat} {τ : Nat → Nat → Nat → Int32} (hd : Dw P τ) : mk (wt τ) (cPlace τ P) P = 2 ^ wN P τ - 1 := by
  apply Nat.eq_of_testBit_eq
  intro k
  rw [Nat.testBit_two_pow_sub_one]
  by_cases hk : k < wN P τ
  · rw [decide_eq_true hk, mk_bit]
    obtain ⟨a, b, c⟩ := ord2 hd hk
    exact ⟨_, a, b, c⟩
  · rw [decide_eq_false hk]
    refine Bool.eq_false_iff.mpr fun z => ?_
    obtain ⟨p, a, b, c⟩ := mk_bit.mp z
    exact hk (c ▸ ord1 a b)
