/-! FACTS OF THE CONSTRUCTORS -/
section KA
variable {B : BB} {d : Nat} {M : MD} {c n pc N : Nat} {ls : List (Nat × Value)} {st : List Value} {S : Nat → Nat} {C : Nat → va_E} {Q : EndQ}
theorem Wg.putA {idx ci k i a : Nat} {fin : Bool} {ty : FieldType} {fs : List Value} {v : Value} (hd : decode M.2.1 pc = .ok (.putfield idx, 3)) (h : FY M.1 idx ci k fin ty) (hM : M.2.2.2.1 = none ∧ M.1 ≠ "java/util/Arrays") (ha : S i = a) (hi : i < N) (hC : C i = .inr (ci, fs)) (hl0 : k < fs.length) (hn : narrow ty v = v) (hfit : fits ty v = true) (q : Wg B d M c n (pc + 3) ls st S (va_up C i (.inr (ci, fs.set k v))) N Q) : Wg B d M c n pc ls (v :: .ref a :: st) S C N Q := by
  subst ha
  exact Wg.put hd h hM hi hC hl0 hn hfit q
theorem Wg.getA {idx ci k i a : Nat} {fin : Bool} {ty : FieldType} {fs : List Value} {v : Value} (hd : decode M.2.1 pc = .ok (.getfield idx, 3)) (h : FY M.1 idx ci k fin ty) (ha : S i = a) (hi : i < N) (hC : C i = .inr (ci, fs)) (hv : fs[k]? = some v) (q : Wg B d M c n (pc + 3) ls (v :: st) S C N Q) : Wg B d M c n pc ls (.ref a :: st) S C N Q := by
  subst ha
  exact Wg.get hd h hi hC hv q
theorem Wg.alenA {i t b : Nat} {cA : ClassId} {ty : FieldType} {a : vp_A} {v : Int32} (hd : decode M.2.1 pc = .ok (.arraylength, 1)) (ha : S i = b) (hi : i < N) (hC : C i = .inl (cA, a)) (ht : (tysC B)[t]? = some (cA, ty)) (hv : Int32.ofNat a.1 = v) (q : Wg B d M c n (pc + 1) ls (.int v :: st) S C N Q) : Wg B d M c n pc ls (.ref b :: st) S C N Q := by
  subst ha
  exact Wg.alen hd hi hC ht hv q
theorem Wg.iastA {i k a : Nat} {f : Nat → Int32} {x z : Int32} (hd : decode M.2.1 pc = .ok (.iastore, 1)) (ha : S i = a) (hi : i < N) (hC : C i = .inl (bc B 0, k, .inl f)) (hx : vp_in x k) (q : Wg B d M c n (pc + 1) ls st S (va_up C i (.inl (bc B 0, k, .inl (upd f x.toNatClampNeg z)))) N Q) : Wg B d M c n pc ls (.int z :: .int x :: .ref a :: st) S C N Q := by
  subst ha
  exact Wg.iast hd hi hC hx q
theorem Wg.astqA {i j k t ci a b : Nat} {r : vw_C} {f : Nat → Option Nat} {vs : List Value} {x : Int32} (hd : decode M.2.1 pc = .ok (.aastore, 1)) (ha : S i = a) (hb : S j = b) (hi : i < N) (hj : j < N) (hC : C i = .inl (bc B t, k, .inr (.inr (.inr (.inr f))))) (hCj : C j = .inr (ci, vs)) (hr : vwCl[ci]? = some r) (ht : (tysC B)[t]? = some (bc B t, .object r.1)) (hx : vp_in x k) (q : Wg B d M c n (pc + 1) ls st S (va_up C i (.inl (bc B t, k, .inr (.inr (.inr (.inr (va_up f x.toNatClampNeg (some b)))))))) N Q) : Wg B d M c n pc ls (.ref b :: .int x :: .ref a :: st) S C N Q := by
  subst ha
  subst hb
  exact Wg.astq hd hi hj hC hCj hr ht hx q
end KA
theorem obI : Cond.instanceMethod Lib.objectInit ∈ gTbl := gT 24 (by decide +kernel) (by decide +kernel)
theorem obC : Cond.code Lib.objectInit ⟨#[0xb1]⟩ 1 none ∈ gTbl := gT 25 (by decide +kernel) (by decide +kernel)
theorem aI : Cond.arrayClass .int ∈ gTbl := gT 86 (by decide +kernel) (by decide +kernel)
theorem inX2 : ∀ w ∈ u_ws RX2 TX2 7, w ∈ gTbl := by decide +kernel
abbrev MX0_init : MD := (RX0, cX0_init, 1, none, [])
theorem fX0_init : MFi yX0_init MX0_init := ⟨rfl, by decide, rfl, rfl, gT 90 (by decide +kernel) (by decide +kernel), gT 9 (by decide +kernel) (by decide +kernel), by decide +kernel, by decide, gT 89 (by decide +kernel) (by decide +kernel)⟩
abbrev df0 : List Value := [.null, .int 0, .int 0]
theorem nc0 : NC 0 RX0 3 df0 := ⟨TX0, tyX0, rfl, inX0, tyX0_ok, gT 87 (by decide +kernel) (by decide +kernel), gT 9 (by decide +kernel) (by decide +kernel), by decide⟩
abbrev MX1_init : MD := (RX1, cX1_init, 2, none, [])
theorem fX1_init : MFi yX1_init MX1_init := ⟨rfl, by decide, rfl, rfl, gT 30 (by decide +kernel) (by decide +kernel), gT 5 (by decide +kernel) (by decide +kernel), by decide +kernel, by decide, gT 29 (by decide +kernel) (by decide +kernel)⟩
abbrev df1 : List Value := [.int 0, .int 0, .int 0, .int 0, .int 0, .null, .null, .null, .null, .null]
theorem nc1 : NC 1 RX1 10 df1 := ⟨TX1, tyX1, rfl, inX1, tyX1_ok, gT 27 (by decide +kernel) (by decide +kernel), gT 5 (by decide +kernel) (by decide +kernel), by decide⟩
abbrev MX2_init : MD := (RX2, cX2_init, 1, none, [])
theorem fX2_init : MFi yX2_init MX2_init := ⟨rfl, by decide, rfl, rfl, gT 145 (by decide +kernel) (by decide +kernel), gT 10 (by decide +kernel) (by decide +kernel), by decide +kernel, by decide, gT 144 (by decide +kernel) (by decide +kernel)⟩
abbrev df2 : List Value := [.null, .int 0, .int 0, .int 0, .null, .null, .null]
theorem nc2 : NC 2 RX2 7 df2 := ⟨TX2, tyX2, rfl, inX2, tyX2_ok, gT 142 (by decide +kernel) (by decide +kernel), gT 10 (by decide +kernel) (by decide +kernel), by decide⟩
abbrev MX3_init : MD := (RX3, cX3_init, 1, none, [])
theorem fX3_init : MFi yX3_init MX3_init := ⟨rfl, by decide, rfl, rfl, gT 47 (by decide +kernel) (by decide +kernel), gT 8 (by decide +kernel) (by decide +kernel), by decide +kernel, by decide, gT 46 (by decide +kernel) (by decide +kernel)⟩
abbrev df3 : List Value := [.int 0, .int 0, .int 0, .int 0, .int 0, .int 0, .int 0, .int 0, .int 0]
theorem nc3 : NC 3 RX3 9 df3 := ⟨TX3, tyX3, rfl, inX3, tyX3_ok, gT 44 (by decide +kernel) (by decide +kernel), gT 8 (by decide +kernel) (by decide +kernel), by decide⟩
abbrev MX4_init : MD := (RX4, cX4_init, 2, none, [])
theorem fX4_init : MFi yX4_init MX4_init := ⟨rfl, by decide, rfl, rfl, gT 22 (by decide +kernel) (by decide +kernel), gT 4 (by decide +kernel) (by decide +kernel), by decide +kernel, by decide, gT 21 (by decide +kernel) (by decide +kernel)⟩
abbrev df4 : List Value := [.null, .null, .null, .int 0, .null]
theorem nc4 : NC 4 RX4 5 df4 := ⟨TX4, tyX4, rfl, inX4, tyX4_ok, gT 19 (by decide +kernel) (by decide +kernel), gT 4 (by decide +kernel) (by decide +kernel), by decide⟩
theorem fy0_9 : FY RX0 9 0 0 true (tyX0 0) := ⟨RX0, TX0, 3, tyX0, rfl, by decide, inX0, gT 92 (by decide +kernel) (by decide +kernel), tyX0_ok, nmX0, rfl, tyX0_ok 0 (by decide), rfl⟩
theorem fy0_15 : FY RX0 15 0 1 false (tyX0 1) := ⟨RX0, TX0, 3, tyX0, rfl, by decide, inX0, gT 94 (by decide +kernel) (by decide +kernel), tyX0_ok, nmX0, rfl, tyX0_ok 1 (by decide), rfl⟩
theorem fy0_19 : FY RX0 19 0 2 false (tyX0 2) := ⟨RX0, TX0, 3, tyX0, rfl, by decide, inX0, gT 96 (by decide +kernel) (by decide +kernel), tyX0_ok, nmX0, rfl, tyX0_ok 2 (by decide), rfl⟩
theorem fy1_9 : FY RX1 9 1 0 false (tyX1 0) := ⟨RX1, TX1, 10, tyX1, rfl, by decide, inX1, gT 105 (by decide +kernel) (by decide +kernel), tyX1_ok, nmX1, rfl, tyX1_ok 0 (by decide), rfl⟩
theorem fy1_15 : FY RX1 15 1 1 false (tyX1 1) := ⟨RX1, TX1, 10, tyX1, rfl, by decide, inX1, gT 106 (by decide +kernel) (by decide +kernel), tyX1_ok, nmX1, rfl, tyX1_ok 1 (by decide), rfl⟩
theorem fy1_18 : FY RX1 18 1 2 false (tyX1 2) := ⟨RX1, TX1, 10, tyX1, rfl, by decide, inX1, gT 108 (by decide +kernel) (by decide +kernel), tyX1_ok, nmX1, rfl, tyX1_ok 2 (by decide), rfl⟩
theorem fy1_21 : FY RX1 21 1 3 false (tyX1 3) := ⟨RX1, TX1, 10, tyX1, rfl, by decide, inX1, gT 110 (by decide +kernel) (by decide +kernel), tyX1_ok, nmX1, rfl, tyX1_ok 3 (by decide), rfl⟩
theorem fy1_24 : FY RX1 24 1 4 false (tyX1 4) := ⟨RX1, TX1, 10, tyX1, rfl, by decide, inX1, gT 111 (by decide +kernel) (by decide +kernel), tyX1_ok, nmX1, rfl, tyX1_ok 4 (by decide), rfl⟩
theorem fy1_31 : FY RX1 31 1 5 true (tyX1 5) := ⟨RX1, TX1, 10, tyX1, rfl, by decide, inX1, gT 112 (by decide +kernel) (by decide +kernel), tyX1_ok, nmX1, rfl, tyX1_ok 5 (by decide), rfl⟩
theorem fy1_34 : FY RX1 34 1 6 true (tyX1 6) := ⟨RX1, TX1, 10, tyX1, rfl, by decide, inX1, gT 114 (by decide +kernel) (by decide +kernel), tyX1_ok, nmX1, rfl, tyX1_ok 6 (by decide), rfl⟩
theorem fy1_39 : FY RX1 39 1 7 true (tyX1 7) := ⟨RX1, TX1, 10, tyX1, rfl, by decide, inX1, gT 116 (by decide +kernel) (by decide +kernel), tyX1_ok, nmX1, rfl, tyX1_ok 7 (by decide), rfl⟩
theorem fy1_45 : FY RX1 45 1 8 true (tyX1 8) := ⟨RX1, TX1, 10, tyX1, rfl, by decide, inX1, gT 117 (by decide +kernel) (by decide +kernel), tyX1_ok, nmX1, rfl, tyX1_ok 8 (by decide), rfl⟩
theorem fy1_49 : FY RX1 49 1 9 true (tyX1 9) := ⟨RX1, TX1, 10, tyX1, rfl, by decide, inX1, gT 118 (by decide +kernel) (by decide +kernel), tyX1_ok, nmX1, rfl, tyX1_ok 9 (by decide), rfl⟩
theorem fy2_9 : FY RX2 9 2 0 true (tyX2 0) := ⟨RX2, TX2, 7, tyX2, rfl, by decide, inX2, gT 147 (by decide +kernel) (by decide +kernel), tyX2_ok, nmX2, rfl, tyX2_ok 0 (by decide), rfl⟩
theorem fy2_15 : FY RX2 15 2 1 false (tyX2 1) := ⟨RX2, TX2, 7, tyX2, rfl, by decide, inX2, gT 148 (by decide +kernel) (by decide +kernel), tyX2_ok, nmX2, rfl, tyX2_ok 1 (by decide), rfl⟩
theorem fy2_19 : FY RX2 19 2 2 false (tyX2 2) := ⟨RX2, TX2, 7, tyX2, rfl, by decide, inX2, gT 149 (by decide +kernel) (by decide +kernel), tyX2_ok, nmX2, rfl, tyX2_ok 2 (by decide), rfl⟩
theorem fy2_22 : FY RX2 22 2 3 false (tyX2 3) := ⟨RX2, TX2, 7, tyX2, rfl, by decide, inX2, gT 150 (by decide +kernel) (by decide +kernel), tyX2_ok, nmX2, rfl, tyX2_ok 3 (by decide), rfl⟩
theorem fy2_25 : FY RX2 25 2 4 true (tyX2 4) := ⟨RX2, TX2, 7, tyX2, rfl, by decide, inX2, gT 151 (by decide +kernel) (by decide +kernel), tyX2_ok, nmX2, rfl, tyX2_ok 4 (by decide), rfl⟩
theorem fy2_28 : FY RX2 28 2 5 true (tyX2 5) := ⟨RX2, TX2, 7, tyX2, rfl, by decide, inX2, gT 152 (by decide +kernel) (by decide +kernel), tyX2_ok, nmX2, rfl, tyX2_ok 5 (by decide), rfl⟩
theorem fy2_31 : FY RX2 31 2 6 true (tyX2 6) := ⟨RX2, TX2, 7, tyX2, rfl, by decide, inX2, gT 153 (by decide +kernel) (by decide +kernel), tyX2_ok, nmX2, rfl, tyX2_ok 6 (by decide), rfl⟩
theorem fy3_9 : FY RX3 9 3 0 false (tyX3 0) := ⟨RX3, TX3, 9, tyX3, rfl, by decide, inX3, gT 49 (by decide +kernel) (by decide +kernel), tyX3_ok, nmX3, rfl, tyX3_ok 0 (by decide), rfl⟩
theorem fy3_15 : FY RX3 15 3 1 false (tyX3 1) := ⟨RX3, TX3, 9, tyX3, rfl, by decide, inX3, gT 51 (by decide +kernel) (by decide +kernel), tyX3_ok, nmX3, rfl, tyX3_ok 1 (by decide), rfl⟩
theorem fy3_18 : FY RX3 18 3 2 false (tyX3 2) := ⟨RX3, TX3, 9, tyX3, rfl, by decide, inX3, gT 53 (by decide +kernel) (by decide +kernel), tyX3_ok, nmX3, rfl, tyX3_ok 2 (by decide), rfl⟩
theorem fy3_21 : FY RX3 21 3 3 false (tyX3 3) := ⟨RX3, TX3, 9, tyX3, rfl, by decide, inX3, gT 55 (by decide +kernel) (by decide +kernel), tyX3_ok, nmX3, rfl, tyX3_ok 3 (by decide), rfl⟩
theorem fy3_24 : FY RX3 24 3 4 false (tyX3 4) := ⟨RX3, TX3, 9, tyX3, rfl, by decide, inX3, gT 57 (by decide +kernel) (by decide +kernel), tyX3_ok, nmX3, rfl, tyX3_ok 4 (by decide), rfl⟩
theorem fy3_27 : FY RX3 27 3 5 false (tyX3 5) := ⟨RX3, TX3, 9, tyX3, rfl, by decide, inX3, gT 59 (by decide +kernel) (by decide +kernel), tyX3_ok, nmX3, rfl, tyX3_ok 5 (by decide), rfl⟩
theorem fy3_30 : FY RX3 30 3 6 false (tyX3 6) := ⟨RX3, TX3, 9, tyX3, rfl, by decide, inX3, gT 61 (by decide +kernel) (by decide +kernel), tyX3_ok, nmX3, rfl, tyX3_ok 6 (by decide), rfl⟩
theorem fy3_33 : FY RX3 33 3 7 false (tyX3 7) := ⟨RX3, TX3, 9, tyX3, rfl, by decide, inX3, gT 63 (by decide +kernel) (by decide +kernel), tyX3_ok, nmX3, rfl, tyX3_ok 7 (by decide), rfl⟩
theorem fy3_36 : FY RX3 36 3 8 false (tyX3 8) := ⟨RX3, TX3, 9, tyX3, rfl, by decide, inX3, gT 65 (by decide +kernel) (by decide +kernel), tyX3_ok, nmX3, rfl, tyX3_ok 8 (by decide), rfl⟩
theorem fy4_12 : FY RX4 12 4 0 true (tyX4 0) := ⟨RX4, TX4, 5, tyX4, rfl, by decide, inX4, gT 169 (by decide +kernel) (by decide +kernel), tyX4_ok, nmX4, rfl, tyX4_ok 0 (by decide), rfl⟩
theorem fy4_16 : FY RX4 16 4 1 true (tyX4 1) := ⟨RX4, TX4, 5, tyX4, rfl, by decide, inX4, gT 170 (by decide +kernel) (by decide +kernel), tyX4_ok, nmX4, rfl, tyX4_ok 1 (by decide), rfl⟩
theorem fy4_19 : FY RX4 19 4 2 true (tyX4 2) := ⟨RX4, TX4, 5, tyX4, rfl, by decide, inX4, gT 171 (by decide +kernel) (by decide +kernel), tyX4_ok, nmX4, rfl, tyX4_ok 2 (by decide), rfl⟩
theorem fy4_23 : FY RX4 23 4 3 false (tyX4 3) := ⟨RX4, TX4, 5, tyX4, rfl, by decide, inX4, gT 172 (by decide +kernel) (by decide +kernel), tyX4_ok, nmX4, rfl, tyX4_ok 3 (by decide), rfl⟩
theorem fy4_30 : FY RX4 30 4 4 true (tyX4 4) := ⟨RX4, TX4, 5, tyX4, rfl, by decide, inX4, gT 173 (by decide +kernel) (by decide +kernel), tyX4_ok, nmX4, rfl, tyX4_ok 4 (by decide), rfl⟩
/-- what a constructor leaves: sz cells from k on, the rest as it was, and a shape -/
def Qy (_ : BB) (sz _ : Nat) (S : Nat → Nat) (C : Nat → va_E) (k : Nat) (Sh : (Nat → Nat) → (Nat → va_E) → Nat → Prop) : EndY := fun S' C' N' => N' = k + sz ∧ (∀ x, x < k + 1 → S' x = S x) ∧ (∀ x, x < k → C' x = C x) ∧ Sh S' C' k
abbrev zI : Nat → Int32 := fun _ => 0
def Sh3 (_ : BB) (_ : Nat → Nat) (C : Nat → va_E) (k : Nat) : Prop := C k = .inr (3, [.int 0, .int 0, .int 0, .int (-1), .int (-1), .int 0, .int 0, .int 0, .int 0])
def Sh0 (B : BB) (S : Nat → Nat) (C : Nat → va_E) (k : Nat) : Prop := C k = .inr (0, [.ref (S (k + 1)), .int 0, .int 0]) ∧ C (k + 1) = .inl (bc B 0, 4, .inl (fun _ => 0))
def Sh2 (B : BB) (S : Nat → Nat) (C : Nat → va_E) (k : Nat) : Prop := C k = .inr (2, [.ref (S (k + 1)), .int 0, .int 0, .int 0, .ref (S (k + 2)), .ref (S (k + 3)), .ref (S (k + 4))]) ∧ C (k + 1) = .inl (bc B 0, 60, .inl (fun _ => 0)) ∧ C (k + 2) = .inl (bc B 0, 60, .inl (fun _ => 0)) ∧ C (k + 3) = .inl (bc B 0, 60, .inl (fun _ => 0)) ∧ C (k + 4) = .inl (bc B 0, 60, .inl (fun _ => 0))
