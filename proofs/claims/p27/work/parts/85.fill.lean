/-! Arrays.fill; THE OFFICE -/
theorem f3 : ((3 : Fin 4) : Nat) = 3 := rfl
theorem n0I : nI 0 = 0 := rfl
def Qf (B : BB) (i n : Nat) (x : Int32) (S : Nat → Nat) (C0 : Nat → va_E) (N : Nat) : EndY := fun S' C' N' => S' = S ∧ N' = N ∧ (∀ y, y ≠ i → C' y = C0 y) ∧ ∃ f : Nat → Int32, C' i = .inl (bc B 0, n, .inl f) ∧ ∀ y, y < n → f y = x
theorem fill_loop {B : BB} {d a i n N : Nat} {x : Int32} {S : Nat → Nat} {C0 : Nat → va_E} (ha : S i = a) (hi : i < N) (hn : n < 2 ^ 31) : ∀ (r j : Nat) (C : Nat → va_E) (f : Nat → Int32), j + r = n → C i = .inl (bc B 0, n, .inl f) → (∀ y, y < j → f y = x) → (∀ y, y ≠ i → C y = C0 y) →
    Wg B d MJ7_fill_53178 0 0 5 [(2, .int (nI j)), (3, .int (nI n)), (1, .int x), (0, .ref a)] [] S C N (fun S' C' N' pc _ c' n' => decode MJ7_fill_53178.2.1 pc = .ok (.return_, 1) ∧ c' = 0 ∧ n' = 0 ∧ Qf B i n x S C0 N S' C' N') := by
  intro r
  induction r with
  | zero =>
    intro j C f hj hC hf ho
    refine Wg.iload_n (k := 2) (x := nI j) dJ7_fill_53178_5 (by simp) ?_
    refine Wg.iload_n (k := 3) (x := nI n) dJ7_fill_53178_6 (by simp [f3]) ?_
    refine Wg.icmpge (tgt := 20) dJ7_fill_53178_7 (by rfl) (fun _ => ?_) (fun h => absurd (geL (by omega) (by omega)) h)
    exact Wg.stop ⟨dJ7_fill_53178_20, rfl, rfl, rfl, rfl, ho, f, hC, fun y hy => hf y (by omega)⟩
  | succ r ih =>
    intro j C f hj hC hf ho
    refine Wg.iload_n (k := 2) (x := nI j) dJ7_fill_53178_5 (by simp) ?_
    refine Wg.iload_n (k := 3) (x := nI n) dJ7_fill_53178_6 (by simp [f3]) ?_
    refine Wg.icmpge (tgt := 20) dJ7_fill_53178_7 (by rfl) (fun h => absurd h (ngeL (by omega) (by omega))) (fun _ => ?_)
    refine Wg.aload_n (k := 0) (a := a) dJ7_fill_53178_10 (by simp) ?_
    refine Wg.iload_n (k := 2) (x := nI j) dJ7_fill_53178_11 (by simp) ?_
    refine Wg.iload_n (k := 1) (x := x) dJ7_fill_53178_12 (by simp) ?_
    refine Wg.iastA (i := i) (k := n) (f := f) dJ7_fill_53178_13 ha hi hC (vp_in_nI (by omega) hn) ?_
    refine Wg.iinc (k := 0) (x := nI j) (v := nI (j + 1)) dJ7_fill_53178_14 rfl (by rw [← nI_1]; rfl) (by decide) ?_
    refine Wg.goto (tgt := 5) dJ7_fill_53178_17 (by rfl) ?_
    refine Wg.few (ls' := [(2, .int (nI (j + 1))), (3, .int (nI n)), (1, .int x), (0, .ref a)]) (by simp [lsto, Value.category]) ?_
    refine ih (j + 1) _ (upd f j x) (by omega) ?_ (fun y hy => ?_) (fun y hy => ?_)
    · simp only [va_up, if_pos]
      rw [show (nI j).toNatClampNeg = j from ixn (by omega)]
    · by_cases e : y = j
      · simp [upd, e]
      · simp only [upd, e, if_neg, not_false_eq_true]
        first | exact hf y (by omega) | (simp [e]; exact hf y (by omega))
    · simp only [va_up, if_neg hy]
      exact ho y hy
theorem ctF {B : BB} {d i n N : Nat} {x : Int32} {S : Nat → Nat} {C : Nat → va_E} {f : Nat → Int32} (hi : i < N) (hn : n < 2 ^ 31) (hC : C i = .inl (bc B 0, n, .inl f)) : WY B d MJ7_fill_53178 [.ref (S i), .int x] 0 0 S C N (Qf B i n x S C N) := by
  unfold WY
  rw [show lv_args 0 [Value.ref (S i), Value.int x] = [(0, Value.ref (S i)), (1, Value.int x)] from rfl]
  refine Wg.iconst (v := 0) dJ7_fill_53178_0 (by rfl) ?_
  refine Wg.istore_n (k := 2) dJ7_fill_53178_1 (by decide) ?_
  refine Wg.aload_n (k := 0) (a := S i) dJ7_fill_53178_2 (by simp [lsto, Value.category]) ?_
  refine Wg.alenA (i := i) (t := 0) (ty := .int) (v := nI n) dJ7_fill_53178_3 rfl hi hC rfl rfl ?_
  refine Wg.istore_n (k := 3) dJ7_fill_53178_4 (by decide) ?_
  refine Wg.few (ls' := [(2, .int (nI 0)), (3, .int (nI n)), (1, .int x), (0, .ref (S i))]) (by simp [lsto, Value.category, f3, n0I]) ?_
  exact fill_loop rfl hi hn n 0 C f (by omega) hC (fun y hy => absurd hy (by omega)) (fun _ _ => rfl)
