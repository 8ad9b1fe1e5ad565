/-! NUMBERS WITH A POINT: the share of tests passed -/
theorem t64 : FP.Core.b64.tails = 4503599627370496 := by decide
theorem x64 : FP.Core.b64.exps = 2048 := by decide
theorem m64 : FP.Core.b64.qmin = -1074 := by decide
theorem M64 : FP.Core.b64.qmax = 971 := by decide
theorem p64 : FP.Core.b64.p = 53 := rfl
/-- a normal number, 2^52 to 2^53 times a power -/
def D53 (x : UInt64) (c : Nat) (q : Int) : Prop := FP.Core.decode FP.Core.b64 x.toNat = .fin false c q ∧ 4503599627370496 ≤ c ∧ c < 9007199254740992 ∧ -1000 ≤ q ∧ q ≤ 900
def Ze (x : UInt64) : Prop := FP.Core.decode FP.Core.b64 x.toNat = .fin false 0 (-1074)
theorem D53_enc {c : Nat} {q : Int} (h1 : 4503599627370496 ≤ c) (h2 : c < 9007199254740992) (h3 : -1000 ≤ q) (h4 : q ≤ 900) : D53 (.ofNat (FP.Core.encode FP.Core.b64 (.fin false c q))) c q := by
  refine ⟨?_, h1, h2, h3, h4⟩
  have en : FP.Core.encode FP.Core.b64 (.fin false c q) = ((q + 1074).toNat + 1) * 4503599627370496 + (c - 4503599627370496) := by
    unfold FP.Core.encode FP.Core.assemble
    dsimp only
    rw [t64, x64, m64, if_neg (by omega), show (false : Bool).toNat = 0 from rfl, Nat.zero_mul, Nat.zero_add, show q - (-1074) = q + 1074 by omega]
  rw [en, UInt64.toNat_ofNat_of_lt' (by show _ < 2 ^ 64; omega)]
  unfold FP.Core.decode FP.Core.fieldE FP.Core.fieldT FP.Core.fieldS
  rw [t64, x64, m64]
  rw [if_neg (by omega), if_neg (by omega)]
  rw [show ((((q + 1074).toNat + 1) * 4503599627370496 + (c - 4503599627370496)) / 4503599627370496 / 2048 % 2 == 1) = false by rw [beq_eq_false_iff_ne]; omega, show 4503599627370496 + (((q + 1074).toNat + 1) * 4503599627370496 + (c - 4503599627370496)) % 4503599627370496 = c by omega]
  congr 1
  omega
theorem Ze_enc {s : Bool} (hs : s = false) : Ze (.ofNat (FP.Core.encode FP.Core.b64 (.fin s 0 (FP.Core.b64.qmin)))) := by
  subst hs
  unfold Ze
  decide +kernel
theorem n64_enc {d : FP.Core.Datum} (h : (∃ s, d = .inf s) ∨ ∃ s c q, d = .fin s c q ∧ c < 9007199254740992 ∧ q ≤ 971) : vf_n64 (.ofNat (FP.Core.encode FP.Core.b64 d)) := by
  have key : ∀ (s : Bool) (k : Nat), k ≤ 9218868437227405312 → vf_n64 (.ofNat (s.toNat * 9223372036854775808 + k)) := fun s k hk => by
    unfold vf_n64
    rw [UInt64.le_iff_toNat_le, UInt64.toNat_and, UInt64.toNat_ofNat_of_lt' (by show _ < 2 ^ 64; cases s <;> simp <;> omega)]
    rw [show (0x7fffffffffffffff : UInt64).toNat = 2 ^ 63 - 1 by decide, Nat.and_two_pow_sub_one_eq_mod, show (0x7ff0000000000000 : UInt64).toNat = 9218868437227405312 by decide]
    cases s <;> simp <;> omega
  rcases h with ⟨s, rfl⟩ | ⟨s, c, q, rfl, hc, hq⟩
  · unfold FP.Core.encode FP.Core.assemble
    dsimp only
    rw [t64, x64]
    have := key s 9218868437227405312 (Nat.le_refl _)
    rw [show (s.toNat * 2048 + (2048 - 1)) * 4503599627370496 + 0 = s.toNat * 9223372036854775808 + 9218868437227405312 by omega]
    exact this
  · unfold FP.Core.encode FP.Core.assemble
    dsimp only
    rw [t64, x64, m64]
    by_cases a : c < 4503599627370496
    · rw [if_pos a, show (s.toNat * 2048 + 0) * 4503599627370496 + c = s.toNat * 9223372036854775808 + c by omega]
      exact key s c (by omega)
    · rw [if_neg a, show (s.toNat * 2048 + ((q - (-1074)).toNat + 1)) * 4503599627370496 + (c - 4503599627370496) = s.toNat * 9223372036854775808 + (((q - (-1074)).toNat + 1) * 4503599627370496 + (c - 4503599627370496)) by omega]
      exact key s _ (by omega)
theorem rr_ok {s : Bool} {num den : Nat} {e : Int} : (∃ s', FP.Core.roundRatio FP.Core.b64 s num den e = .inf s') ∨ ∃ s' c q, FP.Core.roundRatio FP.Core.b64 s num den e = .fin s' c q ∧ c < 9007199254740992 ∧ q ≤ 971 := by
  unfold FP.Core.roundRatio
  by_cases a : num = 0
  · rw [if_pos a, m64]
    exact Or.inr ⟨s, 0, -1074, rfl, by decide, by decide⟩
  · rw [if_neg a]
    unfold FP.Core.roundAt FP.Core.settle FP.Core.bound
    rw [M64, t64, p64]
    split
    · split
      · exact Or.inr ⟨_, _, _, rfl, by rename_i h _; exact h, by assumption⟩
      · exact Or.inl ⟨_, rfl⟩
    · split
      · exact Or.inr ⟨_, _, _, rfl, by decide, by assumption⟩
      · exact Or.inl ⟨_, rfl⟩
theorem rr_at {s : Bool} {num den r : Nat} {e q : Int} (hn : num ≠ 0) (hq : FP.Core.quantum FP.Core.b64 num den e = q) (hr : FP.Core.nearest (FP.Core.unitsNum num e q) (FP.Core.unitsDen den e q) = r) (h1 : r < 9007199254740992) (h2 : q ≤ 971) : FP.Core.roundRatio FP.Core.b64 s num den e = .fin s r q := by
  unfold FP.Core.roundRatio FP.Core.roundAt
  rw [if_neg hn, hq, hr]
  unfold FP.Core.settle FP.Core.bound
  rw [p64, if_pos (by exact h1), M64, if_pos h2]
theorem near_1 {n : Nat} : FP.Core.nearest n 1 = n := by
  unfold FP.Core.nearest
  rw [Nat.mod_one, if_pos (by decide), Nat.div_one]
theorem lead_1 {n k : Nat} (h0 : n ≠ 0) (h : n.log2 = k) : FP.Core.leading n 1 = k := by
  have := Nat.log2_self_le h0
  rw [h] at this
  unfold FP.Core.leading
  simp only [h, show Nat.log2 1 = 0 by decide]
  rw [if_pos]
  · omega
  · rw [show ((k : Int) - ((0 : Nat) : Int)).toNat = k by omega, show (-((k : Int) - ((0 : Nat) : Int))).toNat = 0 by omega]
    omega
/-- a small whole number is exact -/
theorem rr_nat {n : Nat} {e : Int} {s : Bool} (h0 : n ≠ 0) (h1 : n < 9007199254740992) (he : -100 ≤ e) (he2 : e ≤ 100) : FP.Core.roundRatio FP.Core.b64 s n 1 e = .fin s (n * 2 ^ (52 - n.log2)) ((n.log2 : Int) + e - 52) ∧ 4503599627370496 ≤ n * 2 ^ (52 - n.log2) ∧ n * 2 ^ (52 - n.log2) < 9007199254740992 ∧ n.log2 ≤ 52 := by
  have a := Nat.log2_self_le h0
  have b := Nat.lt_log2_self (n := n)
  have l52 : n.log2 ≤ 52 := by
    have : n.log2 < 53 := (Nat.log2_lt h0).mpr h1
    omega
  have hb : 4503599627370496 ≤ n * 2 ^ (52 - n.log2) := by
    have := Nat.mul_le_mul_right (2 ^ (52 - n.log2)) a
    rw [← Nat.pow_add, show n.log2 + (52 - n.log2) = 52 by omega] at this
    exact this
  have hb2 : n * 2 ^ (52 - n.log2) < 9007199254740992 := by
    have := (Nat.mul_lt_mul_right (a := 2 ^ (52 - n.log2)) (Nat.two_pow_pos _)).mpr b
    rw [← Nat.pow_add, show n.log2 + 1 + (52 - n.log2) = 53 by omega] at this
    exact this
  refine ⟨rr_at h0 ?_ ?_ hb2 (by omega), hb, hb2, l52⟩
  · unfold FP.Core.quantum
    rw [lead_1 h0 rfl, m64, p64]
    omega
  · unfold FP.Core.unitsNum FP.Core.unitsDen
    rw [show (e - ((n.log2 : Int) + e - 52)).toNat = 52 - n.log2 by omega, show ((n.log2 : Int) + e - 52 - e).toNat = 0 by omega, Nat.pow_zero, Nat.mul_one, near_1]
theorem i2d_D {n : Nat} (h0 : n ≠ 0) (h1 : n < 2 ^ 31) : D53 (FP.i2d (nI n)) (n * 2 ^ (52 - n.log2)) ((n.log2 : Int) - 52) := by
  obtain ⟨a, b, c, d⟩ := rr_nat (n := n) (e := 0) (s := false) h0 (by omega) (by decide) (by decide)
  unfold FP.i2d FP.Core.i2d FP.Core.fromInt FP.Core.ofInt FP.Core.round
  dsimp only
  rw [nI_toInt h1, show decide ((n : Int) < 0) = false by rw [decide_eq_false_iff_not]; omega, Int.natAbs_natCast, a, show (n.log2 : Int) + 0 - 52 = (n.log2 : Int) - 52 by omega]
  exact D53_enc b c (by omega) (by omega)
theorem i2d_0 : Ze (FP.i2d (nI 0)) := by unfold Ze; decide +kernel
theorem lead_n {c d : Nat} (h1 : 4503599627370496 ≤ c) (h2 : c < 9007199254740992) (h3 : 4503599627370496 ≤ d) (h4 : d < 9007199254740992) : FP.Core.leading c d = if d ≤ c then 0 else -1 := by
  have l1 : c.log2 = 52 := (Nat.log2_eq_iff (by omega)).mpr ⟨h1, h2⟩
  have l2 : d.log2 = 52 := (Nat.log2_eq_iff (by omega)).mpr ⟨h3, h4⟩
  unfold FP.Core.leading
  simp only [l1, l2]
  rw [show (((52 : Nat) : Int) - ((52 : Nat) : Int)).toNat = 0 by decide, show (-(((52 : Nat) : Int) - ((52 : Nat) : Int))).toNat = 0 by decide, Nat.pow_zero, Nat.mul_one, Nat.mul_one]
  by_cases a : d ≤ c
  · rw [if_pos a, if_pos a]; rfl
  · rw [if_neg a, if_neg a]; rfl
theorem near_le {num den lo hi : Nat} (h1 : lo * den ≤ num) (h2 : num < hi * den) (hd : 0 < den) : lo ≤ FP.Core.nearest num den ∧ FP.Core.nearest num den ≤ hi := by
  have a : lo ≤ num / den := (Nat.le_div_iff_mul_le hd).mpr h1
  have b : num / den < hi := (Nat.div_lt_iff_lt_mul hd).mpr h2
  unfold FP.Core.nearest
  split
  · omega
  · split
    · omega
    · have := Nat.mod_lt (num / den) (show 2 > 0 by decide)
      omega
/-- the share is a normal number, at most 1 -/
theorem div_D {V W : Nat} (h0 : V ≠ 0) (hVW : V ≤ W) (hW : W < 2 ^ 31) : ∃ c K : Nat, D53 (FP.ddiv (FP.i2d (nI V)) (FP.i2d (nI W))) c (-52 - (K : Int)) ∧ K ≤ 40 := by
  obtain ⟨d1, a1, a2, a3, a4⟩ := i2d_D h0 (by omega)
  obtain ⟨d2, b1, b2, b3, b4⟩ := i2d_D (n := W) (by omega) hW
  have lV : V.log2 ≤ 30 := by have := (Nat.log2_lt h0).mpr (show V < 2 ^ 31 by omega); omega
  have lW : W.log2 ≤ 30 := by have := (Nat.log2_lt (show W ≠ 0 by omega)).mpr hW; omega
  have eV : V.log2 ≤ W.log2 := (Nat.le_log2 (by omega)).mpr (Nat.le_trans (Nat.log2_self_le h0) hVW)
  have eq1 : V.log2 = W.log2 → W * 2 ^ (52 - W.log2) ≤ V * 2 ^ (52 - V.log2) → V = W := fun e h => by
    rw [e] at h
    have := Nat.le_of_mul_le_mul_right h (Nat.two_pow_pos _)
    omega
  generalize V * 2 ^ (52 - V.log2) = c at *
  generalize W * 2 ^ (52 - W.log2) = d at *
  have ed : FP.ddiv (FP.i2d (nI V)) (FP.i2d (nI W)) = .ofNat (FP.Core.encode FP.Core.b64 (FP.Core.roundRatio FP.Core.b64 false c d (((V.log2 : Int) - 52) - ((W.log2 : Int) - 52)))) := by
    unfold FP.ddiv FP.Core.ddiv FP.Core.div
    rw [d1, d2]
    unfold FP.Core.quotient
    dsimp only
    rw [if_neg (by omega)]
    rfl
  rw [ed]
  have hl := lead_n a1 a2 b1 b2
  have fin : ∀ (L : Nat) (q : Int), FP.Core.leading c d = -(L : Int) → L ≤ 1 → q = (V.log2 : Int) - W.log2 - L - 52 → (L = 0 → d ≤ c) → (L = 1 → c < d) → q ≤ -53 ∨ (q = -52 ∧ c = d ∧ L = 0) → ∃ c' K : Nat, D53 (.ofNat (FP.Core.encode FP.Core.b64 (FP.Core.roundRatio FP.Core.b64 false c d (((V.log2 : Int) - 52) - ((W.log2 : Int) - 52))))) c' (-52 - (K : Int)) ∧ K ≤ 40 := fun L q hL hL1 hq h00 h11 hend => by
    have hqm : FP.Core.quantum FP.Core.b64 c d (((V.log2 : Int) - 52) - ((W.log2 : Int) - 52)) = q := by
      unfold FP.Core.quantum
      rw [hL, m64, p64]
      omega
    have hu : FP.Core.unitsNum c (((V.log2 : Int) - 52) - ((W.log2 : Int) - 52)) q = c * 2 ^ (52 + L) := by
      unfold FP.Core.unitsNum
      rw [show ((((V.log2 : Int) - 52) - ((W.log2 : Int) - 52)) - q).toNat = 52 + L by omega]
    have hv : FP.Core.unitsDen d (((V.log2 : Int) - 52) - ((W.log2 : Int) - 52)) q = d := by
      unfold FP.Core.unitsDen
      rw [show (q - (((V.log2 : Int) - 52) - ((W.log2 : Int) - 52))).toNat = 0 by omega, Nat.pow_zero, Nat.mul_one]
    have hb : 4503599627370496 * d ≤ c * 2 ^ (52 + L) ∧ c * 2 ^ (52 + L) < 9007199254740992 * d := by
      have : L = 0 ∨ L = 1 := by omega
      rcases this with rfl | rfl
      · have := h00 rfl
        rw [show (2 : Nat) ^ (52 + 0) = 4503599627370496 by decide]
        omega
      · have := h11 rfl
        rw [show (2 : Nat) ^ (52 + 1) = 9007199254740992 by decide]
        omega
    obtain ⟨n1, n2⟩ := near_le hb.1 hb.2 (by omega)
    by_cases n3 : FP.Core.nearest (c * 2 ^ (52 + L)) d < 9007199254740992
    · rw [rr_at (by omega) hqm (by rw [hu, hv]) n3 (by omega)]
      exact ⟨_, (-52 - q).toNat, by rw [show -52 - (((-52 - q).toNat : Nat) : Int) = q by omega]; exact D53_enc n1 n3 (by omega) (by omega), by omega⟩
    · have n4 : FP.Core.nearest (c * 2 ^ (52 + L)) d = 9007199254740992 := by omega
      rcases hend with hend | ⟨e1, e2, e3⟩
      · have er : FP.Core.roundRatio FP.Core.b64 false c d (((V.log2 : Int) - 52) - ((W.log2 : Int) - 52)) = .fin false 4503599627370496 (q + 1) := by
          unfold FP.Core.roundRatio FP.Core.roundAt
          rw [if_neg (by omega), hqm, hu, hv, n4]
          unfold FP.Core.settle FP.Core.bound
          rw [p64, if_neg (by decide), M64, t64, if_pos (by omega)]
        rw [er]
        exact ⟨_, (-53 - q).toNat, by rw [show -52 - (((-53 - q).toNat : Nat) : Int) = q + 1 by omega]; exact D53_enc (by decide) (by decide) (by omega) (by omega), by omega⟩
      · subst e2 e3
        exfalso
        unfold FP.Core.nearest at n4
        rw [show (2 : Nat) ^ (52 + 0) = 4503599627370496 by decide, Nat.mul_mod_right, Nat.mul_div_cancel_left _ (by omega), if_pos (by omega)] at n4
        omega
  by_cases hcd : d ≤ c
  · rw [if_pos hcd] at hl
    refine fin 0 ((V.log2 : Int) - W.log2 - (0 : Nat) - 52) (by rw [hl]; rfl) (by decide) rfl (fun _ => hcd) (fun z => absurd z (by decide)) ?_
    by_cases e : V.log2 = W.log2
    · have := eq1 e hcd
      subst this
      have : FP.Core.Datum.fin false c ((V.log2 : Int) - 52) = .fin false d ((V.log2 : Int) - 52) := d1.symm.trans d2
      injection this with _ e2 _
      exact Or.inr ⟨by omega, e2, rfl⟩
    · exact Or.inl (by omega)
  · rw [if_neg hcd] at hl
    refine fin 1 ((V.log2 : Int) - W.log2 - (1 : Nat) - 52) (by rw [hl]; rfl) (by decide) rfl (fun z => absurd z (by decide)) (fun _ => by omega) (Or.inl (by omega))
theorem div_n {V W : Nat} (hW0 : W ≠ 0) (hV : V < 2 ^ 31) (hW : W < 2 ^ 31) : vf_n64 (FP.ddiv (FP.i2d (nI V)) (FP.i2d (nI W))) := by
  obtain ⟨d2, b1, b2, b3, b4⟩ := i2d_D hW0 hW
  by_cases h0 : V = 0
  · subst h0
    have d1 := i2d_0
    unfold Ze at d1
    unfold FP.ddiv FP.Core.ddiv FP.Core.div
    rw [d1, d2]
    unfold FP.Core.quotient
    dsimp only
    rw [if_neg (by omega)]
    exact n64_enc rr_ok
  · obtain ⟨d1, a1, a2, a3, a4⟩ := i2d_D h0 hV
    unfold FP.ddiv FP.Core.ddiv FP.Core.div
    rw [d1, d2]
    unfold FP.Core.quotient
    dsimp only
    rw [if_neg (by omega)]
    exact n64_enc rr_ok
theorem div_0 {W : Nat} (hW0 : W ≠ 0) (hW : W < 2 ^ 31) : FP.ddiv (FP.i2d (nI 0)) (FP.i2d (nI W)) = 0 := by
  obtain ⟨d2, b1, b2, b3, b4⟩ := i2d_D hW0 hW
  have d1 := i2d_0
  unfold Ze at d1
  unfold FP.ddiv FP.Core.ddiv FP.Core.div
  rw [d1, d2]
  unfold FP.Core.quotient
  dsimp only
  rw [if_neg (by omega)]
  unfold FP.Core.roundRatio
  rw [if_pos rfl]
  decide +kernel
theorem one_D : D53 FP.dconst1 4503599627370496 (-52) := ⟨by decide +kernel, by decide, by decide, by decide, by decide⟩
theorem two_D : D53 4611686018427387904 4503599627370496 (-51) := ⟨by decide +kernel, by decide, by decide, by decide, by decide⟩
theorem big_D : D53 4841369599423283200 4503599627370496 0 := ⟨by decide +kernel, by decide, by decide, by decide, by decide⟩
theorem dbl_D {x : UInt64} {c : Nat} {q : Int} (h : D53 x c q) (hq : q ≤ 0) : D53 (FP.dmul x 4611686018427387904) c (q + 1) ∧ vf_n64 (FP.dmul x 4611686018427387904) := by
  obtain ⟨d1, a1, a2, a3, a4⟩ := h
  obtain ⟨d2, -⟩ := two_D
  have e : FP.dmul x 4611686018427387904 = .ofNat (FP.Core.encode FP.Core.b64 (FP.Core.roundRatio FP.Core.b64 false (c * 4503599627370496) 1 (q + -51))) := by
    unfold FP.dmul FP.Core.dmul FP.Core.mul
    rw [d1, d2]
    rfl
  have er : FP.Core.roundRatio FP.Core.b64 false (c * 4503599627370496) 1 (q + -51) = .fin false c (q + 1) := by
    have lg : (c * 4503599627370496).log2 = 104 := (Nat.log2_eq_iff (by omega)).mpr ⟨by show 20282409603651670423947251286016 ≤ _; omega, by show _ < 40564819207303340847894502572032; omega⟩
    refine rr_at (by omega) ?_ ?_ a2 (by omega)
    · unfold FP.Core.quantum
      rw [lead_1 (by omega) lg, m64, p64]
      omega
    · unfold FP.Core.unitsNum FP.Core.unitsDen
      rw [show (q + -51 - (q + 1)).toNat = 0 by omega, show (q + 1 - (q + -51)).toNat = 52 by omega, Nat.pow_zero, Nat.mul_one, Nat.one_mul, show (2 : Nat) ^ 52 = 4503599627370496 by decide]
      unfold FP.Core.nearest
      rw [Nat.mul_mod_left, if_pos (by decide), Nat.mul_div_cancel _ (by decide)]
  rw [e]
  exact ⟨by rw [er]; exact D53_enc a1 a2 (by omega) (by omega), n64_enc rr_ok⟩
theorem cmp_1 {x : UInt64} {c : Nat} {K : Nat} (h : D53 x c (-52 - (K : Int))) : 0 ≤ Op.cmpValue (FP.dcmp x FP.dconst1) CmpOp.g ↔ K = 0 := by
  obtain ⟨d1, a1, a2, a3, a4⟩ := h
  obtain ⟨d2, -⟩ := one_D
  have e : FP.dcmp x FP.dconst1 = some (compare (c : Int) ((4503599627370496 * 2 ^ K : Nat) : Int)) := by
    unfold FP.dcmp FP.Core.dcmp FP.Core.cmp
    rw [d1, d2]
    unfold FP.Core.order FP.Core.inUnits FP.Core.signed
    dsimp only
    rw [show min (-52 - (K : Int)) (-52) = -52 - (K : Int) by omega, show (-52 - (K : Int) - (-52 - (K : Int))).toNat = 0 by omega, show (-52 - (-52 - (K : Int))).toNat = K by omega, Nat.pow_zero, Nat.mul_one]
    rfl
  rw [e]
  by_cases k0 : K = 0
  · subst k0
    rw [Nat.pow_zero, Nat.mul_one]
    refine ⟨fun _ => rfl, fun _ => ?_⟩
    rcases Nat.lt_or_eq_of_le a1 with z | z
    · rw [show compare (c : Int) ((4503599627370496 : Nat) : Int) = .gt from Int.compare_eq_gt.mpr (by omega)]
      decide
    · rw [← z, show compare ((4503599627370496 : Nat) : Int) ((4503599627370496 : Nat) : Int) = .eq from Int.compare_eq_eq.mpr rfl]
      decide
  · have : 2 ≤ 2 ^ K := by
      have := Nat.pow_le_pow_right (show 0 < 2 by decide) (show 1 ≤ K by omega)
      simpa using this
    rw [show compare (c : Int) ((4503599627370496 * 2 ^ K : Nat) : Int) = .lt from Int.compare_eq_lt.mpr (by omega)]
    refine ⟨fun z => absurd z (by decide), fun z => absurd z k0⟩
theorem sub_n {x : UInt64} {c : Nat} (h : D53 x c (-52)) : vf_n64 (FP.dsub x FP.dconst1) ∧ vf_n64 (FP.dmul (FP.dsub x FP.dconst1) 4841369599423283200) := by
  obtain ⟨d1, a1, a2, a3, a4⟩ := h
  obtain ⟨d2, -⟩ := one_D
  obtain ⟨d3, -⟩ := big_D
  have e : FP.dsub x FP.dconst1 = .ofNat (FP.Core.encode FP.Core.b64 (FP.Core.roundRatio FP.Core.b64 false (c - 4503599627370496) 1 (-52))) := by
    unfold FP.dsub FP.Core.dsub FP.Core.sub
    rw [d1, d2]
    unfold FP.Core.negate FP.Core.exactSum FP.Core.sumUnits FP.Core.inUnits FP.Core.signed
    dsimp only
    rw [show min (-52 : Int) (-52) = -52 by decide, show ((-52 : Int) - -52).toNat = 0 by decide, Nat.pow_zero, Nat.mul_one, Nat.mul_one]
    simp only [Bool.not_false, if_true]
    unfold FP.Core.sumSign FP.Core.round
    rw [show ((if false = true then -(c : Int) else (c : Int)) + -((4503599627370496 : Nat) : Int)) = (((c - 4503599627370496 : Nat)) : Int) by rw [if_neg (by decide)]; omega]
    rw [Int.natAbs_natCast]
    by_cases z : (((c - 4503599627370496 : Nat)) : Int) = 0
    · rw [if_pos z]; rfl
    · rw [if_neg z, show decide ((((c - 4503599627370496 : Nat)) : Int) < 0) = false by rw [decide_eq_false_iff_not]; omega]
  rw [e]
  refine ⟨n64_enc rr_ok, ?_⟩
  by_cases z : c - 4503599627370496 = 0
  · have e2 : FP.Core.roundRatio FP.Core.b64 false (c - 4503599627370496) 1 (-52) = .fin false 0 FP.Core.b64.qmin := by
      unfold FP.Core.roundRatio
      rw [if_pos z]
    rw [e2]
    have d4 := Ze_enc (s := false) rfl
    unfold Ze at d4
    unfold FP.dmul FP.Core.dmul FP.Core.mul
    rw [d4, d3]
    exact n64_enc rr_ok
  · obtain ⟨b1, b2, b3, b4⟩ := rr_nat (n := c - 4503599627370496) (e := -52) (s := false) z (by omega) (by decide) (by decide)
    rw [b1]
    obtain ⟨d4, -⟩ := D53_enc b2 b3 (q := ((c - 4503599627370496).log2 : Int) + -52 - 52) (by omega) (by omega)
    unfold FP.dmul FP.Core.dmul FP.Core.mul
    rw [d4, d3]
    exact n64_enc rr_ok
theorem pos_D {x : UInt64} {c : Nat} {q : Int} (h : D53 x c q) : Op.cmpValue (FP.dcmp x FP.dconst0) CmpOp.g = 1 ∧ Op.cmpValue (FP.dcmp x FP.dconst0) CmpOp.l = 1 := by
  obtain ⟨d1, a1, a2, a3, a4⟩ := h
  have d2 : FP.Core.decode FP.Core.b64 FP.dconst0.toNat = .fin false 0 (-1074) := by decide +kernel
  have e : FP.dcmp x FP.dconst0 = some .gt := by
    unfold FP.dcmp FP.Core.dcmp FP.Core.cmp
    rw [d1, d2]
    unfold FP.Core.order FP.Core.inUnits FP.Core.signed
    dsimp only
    rw [Nat.zero_mul]
    have : 0 < c * 2 ^ (q - min q (-1074)).toNat := Nat.mul_pos (by omega) (Nat.two_pow_pos _)
    exact congrArg some (Int.compare_eq_gt.mpr (by show ((0 : Nat) : Int) < ((c * 2 ^ (q - min q (-1074)).toNat : Nat) : Int); omega))
  rw [e]
  exact ⟨rfl, rfl⟩
theorem self_D {x : UInt64} {c : Nat} {q : Int} (h : FP.Core.decode FP.Core.b64 x.toNat = .fin false c q) : FP.dcmp x x = some .eq := by
  unfold FP.dcmp FP.Core.dcmp FP.Core.cmp
  rw [h]
  exact congrArg some (Int.compare_eq_eq.mpr rfl)
