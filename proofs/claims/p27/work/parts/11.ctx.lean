/-! THE CONTEXT: what every method knows of the state it starts in; and Wq: a method at a place, over the pure memory, comes to an end with Q -/
def gTbl : List Cond := lw_tbl.filter goodWord
theorem gTbl_good : GoodIn gTbl gTbl := goodIn_sub (fun _ h => h) (List.all_eq_true.mpr fun w h => (List.mem_filter.mp h).2)
theorem gT {w : Cond} (i : Nat) (h : lw_tbl[i]? = some w) (hg : goodWord w = true) : w ∈ gTbl := List.mem_filter.mpr ⟨List.mem_of_getElem? h, hg⟩
abbrev tysG (g : GG) : List (ClassId × FieldType) := [(gc g 0, .int), (gc g 1, .int), (gc g 2, .int), (gc g 3, .object "TestSlots$Pupil"), (gc g 4, .object "TestSlots$Examiner"), (gc g 5, .object "TestSlots$Office")]
/-- the exceptions' texts: their places in the constants of TestSlots -/
def exT : List (Nat × String) := [(39, "there are 4 examiners"), (54, "there are 12 pupils"), (65, "no such pupil"), (71, "the pupil is not idle"), (80, "the pupil has no slot, and does not wait"), (88, "no such examiner"), (96, "days is out of range"), (106, "the pupil has no slot of today"), (116, "the day would be above 9999"), (124, "no such setting"), (130, "value is out of range"), (135, "code is not 33 to 126"), (140, "the buffer has 60 characters"), (155, "the buffer is not complete orders"), (163, "there is no saved state"), (169, "what is not 0 to 10"), (174, "what is not 0 to 8"), (179, "days or slot is out of range"), (188, "what is not 0 to 14"), (193, "what is not 0 to 2"), (201, "days is out of range, or what is not 0 to 2"), (206, "no such pupil or examiner")]
/-- calls between nest mates: the class that calls, the place, the method -/
def nestW : List (String × Nat × MethodName) := [("TestSlots$Office", 103, yX4_daysTo), ("TestSlots$Office", 99, yX4_partOfCell), ("TestSlots$Office", 120, yX4_examinerAt), ("TestSlots$Office", 106, yX4_cellAt), ("TestSlots$Office", 64, yX3_init), ("TestSlots$Office", 65, yX0_init), ("TestSlots", 29, yX2_init)]
def fsT (k : Nat) : Value := .int (([3, 1, 2, 50] : List Int32).getD k 0)
def hsT (k : Nat) : Value := .int (([20, 1, 9, 999] : List Int32).getD k 0)
/-- what is only read -/
def Fz (g : GG) (U : State) (H : Heap) : Prop :=
  (va_X (ga g 41 10 0) (gL g) (gx g) U H ∧ ga g 41 10 0 < gN g) ∧
  (va_T .int (ga g 42 10 0) 4 fsT (gA g) U H ∧ va_Z "TestSlots" "FIRST_SETTINGS" "[I" (.ref (ga g 42 10 0)) (gA g) U H) ∧
  (va_T .int (ga g 43 10 0) 4 hsT (gA g) U H ∧ va_Z "TestSlots" "HIGHEST_SETTINGS" "[I" (.ref (ga g 43 10 0)) (gA g) U H) ∧
  True ∧ True ∧ True ∧ True ∧
  (∀ z ∈ nestW, va_Nw (.methodLinkNest z.1 z.2.1 z.2.2 "TestSlots") U) ∧ True
theorem Fz.to {g : GG} {u U : State} {H H1 : Heap} (h : Fz g u H) (hvm : u.vm.Alike U.vm) (hM : ∀ a i y h, va_Nw (.methodLinkNest a i y h) u → va_Nw (.methodLinkNest a i y h) U) (hN : gN g ≤ H.size) (hq : ∀ q : Nat, q < H.size → ¬ gA g q → H1[q]? = H[q]?) : Fz g U H1 := by
  obtain ⟨⟨a1, a2⟩, ⟨b1, b2⟩, ⟨c1, c2⟩, -, -, -, -, f3, -⟩ := h
  refine ⟨⟨(a1.moved hvm).kept (hq _ (Nat.lt_of_lt_of_le a2 hN) (Nat.not_le.mpr a2)), a2⟩, ⟨(b1.moved hvm).kept hq, (b2.moved hvm).kept hq⟩, ⟨(c1.moved hvm).kept hq, (c2.moved hvm).kept hq⟩, trivial, trivial, trivial, trivial, fun z hz => hM _ _ _ _ (f3 z hz), trivial⟩
/-- what is known of a state -/
def Kn (g : GG) (U : State) : Prop := gN g ≤ U.heap.size ∧ va_K (gD g) vwCl (tysG g) U ∧ Fz g U U.heap ∧ (∀ m : PM, va_D (gA g) (cells g m)) ∧ (gl g).stackTraces = false
theorem Kn.to {g : GG} {s U : State} {H : Heap} {locs : List Loc} (h : Kn g s) (hS : va_S (gA g) s.heap H locs) (hU : U.heap = H) (hW : s.WarmedH U.vm) : Kn g U := by
  obtain ⟨h1, h2, h3, h4, h5⟩ := h
  subst hU
  exact ⟨Nat.le_trans h1 hS.1, h2.moved hW.alike, h3.to hW.alike (fun _ _ _ _ z => z.warmM hW) h1 hS.2.1, h4, h5⟩
theorem Kn.same {g : GG} {u U : State} (h : Kn g u) (hv : U.vm = u.vm) (hh : U.heap = u.heap) : Kn g U := by
  obtain ⟨h1, h2, h3, h4, h5⟩ := h
  refine ⟨by rw [hh]; exact h1, h2.moved (by rw [hv]; exact Vm.Alike.refl _), ?_, h4, h5⟩
  rw [hh]
  exact h3.to (by rw [hv]; exact Vm.Alike.refl _) (fun _ _ _ _ z => z.same rfl hv.symm) h1 (fun _ _ _ => rfl)
/-- what is known in a method of a class, at any time -/
def Fx (g : GG) (M : MD) (p : Program) (s : State) (mm : MethodId) (args : Array Value) (meth : Method) (cd : Code) : Prop :=
  p.tables.exec = Jvm.exec ∧ cd.code = M.2.1 ∧ cd.maxLocals = M.2.2.1 ∧ s.vm.findClass M.1 = some mm.cls ∧ (∀ w ∈ gTbl, w.before args s = true) ∧ Kn g s ∧ meth.sig.returnType = M.2.2.2.1 ∧ meth.locks = false ∧ cd.exceptionTable.toList = tableOf M.2.2.2.2
/-- a value that is an object of the world -/
def vOK (v : PV) : Prop := match v with
  | .inr (.inr (.inr z)) => z ∈ trip ++ rtrip
  | _ => True
def vAll : List PV → Prop
  | [] => True
  | v :: l => vOK v ∧ vAll l
def oAll : List (Option PV) → Prop
  | [] => True
  | some v :: l => vOK v ∧ oAll l
  | none :: l => oAll l
def lp (g : GG) : Nat → List (Option PV) → List (Nat × Value)
  | _, [] => []
  | i, none :: l => lp g (i + 1) l
  | i, some v :: l => (i, pv g v) :: lp g (i + 1) l
/-- where a method ends: at the instruction that returns, or where an exception is made -/
def Ends (g : GG) (M : MD) (o : Ou) (pc : Nat) (st : List Value) : Prop := match o with
  | .inl none => decode M.2.1 pc = .ok (.return_, 1) ∧ st = [] ∧ M.2.2.2.1 = none
  | .inl (some (.inl x)) => decode M.2.1 pc = .ok (.ireturn, 1) ∧ st = [.int x] ∧ ∃ rt, M.2.2.2.1 = some rt ∧ narrow rt (.int x) = .int x
  | .inl (some (.inr (.inl x))) => decode M.2.1 pc = .ok (.lreturn, 1) ∧ st = [.long x] ∧ M.2.2.2.1 = some .long
  | .inl (some (.inr (.inr (.inl x)))) => decode M.2.1 pc = .ok (.dreturn, 1) ∧ st = [.double x] ∧ M.2.2.2.1 = some .double
  | .inl (some (.inr (.inr (.inr z)))) => decode M.2.1 pc = .ok (.areturn, 1) ∧ st = [.ref (ga g z.1 z.2.1 z.2.2)] ∧ (∃ n, M.2.2.2.1 = some (.object n)) ∧ z ∈ trip ++ rtrip
  | .inr E => ∃ (ik is ic : Nat) (tx : String), M.1 = "TestSlots" ∧ decode M.2.1 pc = .ok (.new ik, 3) ∧ decode M.2.1 (pc + 3) = .ok (.dup, 1) ∧ decode M.2.1 (pc + 4) = .ok (.ldc is, 2) ∧ decode M.2.1 (pc + 6) = .ok (.invokespecial ic, 3) ∧ decode M.2.1 (pc + 9) = .ok (.athrow, 1) ∧ (is, tx) ∈ exT ∧ (E, ik, ic) ∈ [(1, 37, 41), (2, 94, 98), (3, 63, 67)] ∧ (st.map fun v => v.category).sum ≤ 8
/-- c and n: the cells and slots that are left of the method's room -/
def Wq (g : GG) (d : Nat) (M : MD) (c n pc : Nat) (ls : List (Option PV)) (st : List PV) (m : PM) (Q : Ou → PM → Nat → Nat → Prop) : Prop :=
  ∀ (p : Program) (e : Env) (R : Room) (s : State) (mm : MethodId) (args : Array Value) (below : List Frame) (meth : Method) (cd : Code) (H : Heap) (locs : List Loc) (L : Array Slot) (QQ : State → Prop),
    Fx g M p s mm args meth cd → d ≤ R.frames → 33 * d ≤ R.locals → c ≤ R.cells ∧ n ≤ R.slots → World g m H → lv_has L M.2.2.1 (lp g 0 ls) → vAll st → oAll ls → va_S (gA g) s.heap H locs →
    (∀ (o : Ou) (m' : PM) (c' n' pc' : Nat) (L' : Array Slot) (st' : List Value) (H' : Heap) (locs' : List Loc), Q o m' c' n' → World g m' H' → L'.size = M.2.2.1 → va_S (gA g) s.heap H' locs' → Ends g M o pc' st' → W p (gl g) e R s mm args below meth cd H' locs' (R.cells - c') (R.slots - n') QQ (F0 mm pc' L' st')) →
    W p (gl g) e R s mm args below meth cd H locs (R.cells - c) (R.slots - n) QQ (F0 mm pc L (st.map (pv g)))
/-- a method that makes no object on its way to its end -/
abbrev Wp (g : GG) (d : Nat) (M : MD) (pc : Nat) (ls : List (Option PV)) (st : List PV) (m : PM) (Q : Ou → PM → Prop) : Prop := Wq g d M 0 0 pc ls st m (fun o m' c n => c = 0 ∧ n = 0 ∧ Q o m')
/-- locals: reading and writing -/
theorem lp_in {g : GG} : ∀ (ls : List (Option PV)) (i k : Nat) (v : PV), ls[k]? = some (some v) → (i + k, pv g v) ∈ lp g i ls
  | [], _, _, _, h => by simp at h
  | none :: l, i, 0, v, h => by simp at h
  | some w :: l, i, 0, v, h => by
    simp at h
    subst h
    exact List.mem_cons_self
  | none :: l, i, k + 1, v, h => by
    have := lp_in (g := g) l (i + 1) k v (by simpa using h)
    rw [show i + (k + 1) = i + 1 + k by omega]
    exact this
  | some w :: l, i, k + 1, v, h => by
    have := lp_in (g := g) l (i + 1) k v (by simpa using h)
    rw [show i + (k + 1) = i + 1 + k by omega]
    exact List.mem_cons_of_mem _ this
theorem lp_of {g : GG} : ∀ (ls : List (Option PV)) (i : Nat) (q : Nat × Value), q ∈ lp g i ls → ∃ k v, ls[k]? = some (some v) ∧ q = (i + k, pv g v)
  | [], _, _, h => by cases h
  | none :: l, i, q, h => by
    obtain ⟨k, v, h1, h2⟩ := lp_of (g := g) l (i + 1) q h
    exact ⟨k + 1, v, by simpa using h1, by rw [h2, show i + (k + 1) = i + 1 + k by omega]⟩
  | some w :: l, i, q, h => by
    rcases List.mem_cons.mp h with h | h
    · exact ⟨0, w, rfl, h⟩
    · obtain ⟨k, v, h1, h2⟩ := lp_of (g := g) l (i + 1) q h
      exact ⟨k + 1, v, by simpa using h1, by rw [h2, show i + (k + 1) = i + 1 + k by omega]⟩
theorem lp_at {g : GG} {L : Array Slot} {nL : Nat} {ls : List (Option PV)} (h : lv_has L nL (lp g 0 ls)) {k : Nat} {v : PV} (hk : ls[k]? = some (some v)) : L[k]? = some (.val (pv g v)) := by
  have := h.2.2 _ (lp_in ls 0 k v hk)
  simpa using this
theorem oAll_at : ∀ {ls : List (Option PV)} {k : Nat} {v : PV}, oAll ls → ls[k]? = some (some v) → vOK v
  | some w :: l, 0, v, h, hk => by
    simp at hk
    subst hk
    exact h.1
  | some w :: l, k + 1, v, h, hk => oAll_at (ls := l) h.2 (by simpa using hk)
  | none :: l, k + 1, v, h, hk => oAll_at (ls := l) h (by simpa using hk)
def two : Option PV → Bool
  | some (.inr (.inl _)) => true
  | some (.inr (.inr (.inl _))) => true
  | _ => false
def psto1 : List (Option PV) → Nat → PV → List (Option PV)
  | [], _, _ => []
  | _ :: l, 0, v => some v :: l
  | o :: l, 1, v => (if two o then none else o) :: psto1 l 0 v
  | o :: l, n + 2, v => o :: psto1 l (n + 1) v
def psto2 : List (Option PV) → Nat → PV → List (Option PV)
  | [], _, _ => []
  | [_], 0, _ => []
  | _ :: _ :: l, 0, v => some v :: none :: l
  | o :: l, 1, v => (if two o then none else o) :: psto2 l 0 v
  | o :: l, n + 2, v => o :: psto2 l (n + 1) v
theorem two_cat {g : GG} {v : PV} (h : two (some v) = false) : (pv g v).category ≠ 2 := by
  rcases v with x | x | x | x
  · simp [pv, Value.category]
  · simp [two] at h
  · simp [two] at h
  · simp [pv, Value.category]
theorem psto1_of : ∀ (ls : List (Option PV)) (i : Nat) (v w : PV) (k : Nat), (psto1 ls i v)[k]? = some (some w) → (k = i ∧ w = v) ∨ (k ≠ i ∧ ls[k]? = some (some w) ∧ ¬ (k + 1 = i ∧ two (some w) = true))
  | [], _, _, _, _, h => by simp [psto1] at h
  | o :: l, 0, v, w, k, h => by
    rw [psto1] at h
    cases k with
    | zero => exact Or.inl ⟨rfl, by simpa using h.symm⟩
    | succ k => exact Or.inr ⟨by omega, by simpa using h, by omega⟩
  | o :: l, 1, v, w, k, h => by
    rw [psto1] at h
    cases k with
    | zero =>
      by_cases ho : two o = true
      · simp [ho] at h
      · simp [ho] at h
        exact Or.inr ⟨by omega, by simp [h], fun q => ho (by rw [h]; exact q.2)⟩
    | succ k =>
      rcases psto1_of l 0 v w k (by simpa using h) with ⟨a, b⟩ | ⟨a, b, c⟩
      · exact Or.inl ⟨by omega, b⟩
      · exact Or.inr ⟨by omega, by simpa using b, by omega⟩
  | o :: l, n + 2, v, w, k, h => by
    rw [psto1] at h
    cases k with
    | zero => exact Or.inr ⟨by omega, by simpa using h, by omega⟩
    | succ k =>
      rcases psto1_of l (n + 1) v w k (by simpa using h) with ⟨a, b⟩ | ⟨a, b, c⟩
      · exact Or.inl ⟨by omega, b⟩
      · exact Or.inr ⟨by omega, by simpa using b, fun q => c ⟨by omega, q.2⟩⟩
theorem psto2_of : ∀ (ls : List (Option PV)) (i : Nat) (v w : PV) (k : Nat), (psto2 ls i v)[k]? = some (some w) → (k = i ∧ w = v) ∨ (k ≠ i ∧ k ≠ i + 1 ∧ ls[k]? = some (some w) ∧ ¬ (k + 1 = i ∧ two (some w) = true))
  | [], _, _, _, _, h => by simp [psto2] at h
  | [o], 0, v, w, k, h => by simp [psto2] at h
  | o :: o2 :: l, 0, v, w, k, h => by
    rw [psto2] at h
    match k with
    | 0 => exact Or.inl ⟨rfl, by simpa using h.symm⟩
    | 1 => simp at h
    | k + 2 => exact Or.inr ⟨by omega, by omega, by simpa using h, by omega⟩
  | o :: l, 1, v, w, k, h => by
    rw [psto2] at h
    cases k with
    | zero =>
      by_cases ho : two o = true
      · simp [ho] at h
      · simp [ho] at h
        exact Or.inr ⟨by omega, by omega, by simp [h], fun q => ho (by rw [h]; exact q.2)⟩
    | succ k =>
      rcases psto2_of l 0 v w k (by simpa using h) with ⟨a, b⟩ | ⟨a, a2, b, c⟩
      · exact Or.inl ⟨by omega, b⟩
      · exact Or.inr ⟨by omega, by omega, by simpa using b, by omega⟩
  | o :: l, n + 2, v, w, k, h => by
    rw [psto2] at h
    cases k with
    | zero => exact Or.inr ⟨by omega, by omega, by simpa using h, by omega⟩
    | succ k =>
      rcases psto2_of l (n + 1) v w k (by simpa using h) with ⟨a, b⟩ | ⟨a, a2, b, c⟩
      · exact Or.inl ⟨by omega, b⟩
      · exact Or.inr ⟨by omega, by omega, by simpa using b, fun q => c ⟨by omega, q.2⟩⟩
theorem oAll_of : ∀ {ls : List (Option PV)}, (∀ (k : Nat) (v : PV), ls[k]? = some (some v) → vOK v) → oAll ls
  | [], _ => trivial
  | some w :: l, h => ⟨h 0 w rfl, oAll_of (fun k v hk => h (k + 1) v (by simpa using hk))⟩
  | none :: l, h => oAll_of (ls := l) (fun k v hk => h (k + 1) v (by simpa using hk))
theorem lp_sto1 {g : GG} {L' : Array Slot} {nL i : Nat} {v : PV} {ls : List (Option PV)} (h : lv_has L' nL ((i, pv g v) :: (lp g 0 ls).filter (fun q => !(q.1 == i) && !(q.1 + 1 == i && q.2.category == 2)))) : lv_has L' nL (lp g 0 (psto1 ls i v)) := by
  refine ⟨h.1, h.2.1, fun q hq => ?_⟩
  obtain ⟨k, w, h1, rfl⟩ := lp_of _ _ _ hq
  rcases psto1_of ls i v w k h1 with ⟨a, b⟩ | ⟨a, b, c⟩
  · subst a; subst b
    exact h.2.2 (0 + k, pv g w) (by rw [Nat.zero_add]; exact List.mem_cons_self)
  · refine h.2.2 _ (List.mem_cons_of_mem _ (List.mem_filter.mpr ⟨lp_in ls 0 k w b, ?_⟩))
    have hc : ¬ (k + 1 = i ∧ (pv g w).category = 2) := fun q => by
      cases ht : two (some w) with
      | true => exact c ⟨q.1, ht⟩
      | false => exact two_cat ht q.2
    simp [a]
    by_cases q : k + 1 = i
    · exact Or.inr (fun z => hc ⟨q, z⟩)
    · exact Or.inl q
theorem lp_sto2 {g : GG} {L' : Array Slot} {nL i : Nat} {v : PV} {ls : List (Option PV)} (h : lv_has L' nL ((i, pv g v) :: (lp g 0 ls).filter (fun q => !(q.1 == i) && (!(q.1 == i + 1) && !(q.1 + 1 == i && q.2.category == 2))))) : lv_has L' nL (lp g 0 (psto2 ls i v)) := by
  refine ⟨h.1, h.2.1, fun q hq => ?_⟩
  obtain ⟨k, w, h1, rfl⟩ := lp_of _ _ _ hq
  rcases psto2_of ls i v w k h1 with ⟨a, b⟩ | ⟨a, a2, b, c⟩
  · subst a; subst b
    exact h.2.2 (0 + k, pv g w) (by rw [Nat.zero_add]; exact List.mem_cons_self)
  · refine h.2.2 _ (List.mem_cons_of_mem _ (List.mem_filter.mpr ⟨lp_in ls 0 k w b, ?_⟩))
    have hc : ¬ (k + 1 = i ∧ (pv g w).category = 2) := fun q => by
      cases ht : two (some w) with
      | true => exact c ⟨q.1, ht⟩
      | false => exact two_cat ht q.2
    simp [a, a2]
    by_cases q : k + 1 = i
    · exact Or.inr (fun z => hc ⟨q, z⟩)
    · exact Or.inl q
theorem oAll_sto1 {ls : List (Option PV)} {i : Nat} {v : PV} (h : oAll ls) (hv : vOK v) : oAll (psto1 ls i v) := oAll_of fun k w hk => by
  rcases psto1_of ls i v w k hk with ⟨a, b⟩ | ⟨a, b, c⟩
  · rw [b]; exact hv
  · exact oAll_at h b
theorem oAll_sto2 {ls : List (Option PV)} {i : Nat} {v : PV} (h : oAll ls) (hv : vOK v) : oAll (psto2 ls i v) := oAll_of fun k w hk => by
  rcases psto2_of ls i v w k hk with ⟨a, b⟩ | ⟨a, a2, b, c⟩
  · rw [b]; exact hv
  · exact oAll_at h b
/-- fewer locals are known -/
def fewer : List (Option PV) → List (Option PV) → Prop
  | [], _ => True
  | none :: l, _ :: k => fewer l k
  | none :: l, [] => fewer l []
  | some v :: l, some w :: k => v = w ∧ fewer l k
  | some _ :: _, _ => False
theorem fewer_at : ∀ {l k : List (Option PV)} {i : Nat} {v : PV}, fewer l k → l[i]? = some (some v) → k[i]? = some (some v)
  | some a :: l, some b :: k, 0, v, h, hi => by
    simp at hi ⊢
    rw [← h.1, hi]
  | some a :: l, some b :: k, i + 1, v, h, hi => by
    have := fewer_at (l := l) (k := k) (i := i) h.2 (by simpa using hi)
    simpa using this
  | none :: l, b :: k, i + 1, v, h, hi => by
    have := fewer_at (l := l) (k := k) (i := i) h (by simpa using hi)
    simpa using this
  | none :: l, [], i + 1, v, h, hi => by
    have := fewer_at (l := l) (k := []) (i := i) h (by simpa using hi)
    simp at this
theorem Wq.few {g : GG} {d : Nat} {M : MD} {c n pc : Nat} {ls ls' : List (Option PV)} {st : List PV} {m : PM} {Q : Ou → PM → Nat → Nat → Prop} (h : fewer ls' ls) (q : Wq g d M c n pc ls' st m Q) : Wq g d M c n pc ls st m Q := by
  intro p e R s mm args below meth cd H locs L QQ F hf hl hr hw hL hst hls hS hk
  refine q p e R s mm args below meth cd H locs L QQ F hf hl hr hw ⟨hL.1, hL.2.1, fun z hz => ?_⟩ hst (oAll_of fun k v hv => oAll_at hls (fewer_at h hv)) hS hk
  obtain ⟨k, v, h1, rfl⟩ := lp_of _ _ _ hz
  exact hL.2.2 _ (lp_in ls 0 k v (fewer_at h h1))
theorem Wq.mono {g : GG} {d : Nat} {M : MD} {c n pc : Nat} {ls : List (Option PV)} {st : List PV} {m : PM} {Q Q' : Ou → PM → Nat → Nat → Prop} (q : Wq g d M c n pc ls st m Q) (h : ∀ o m' c' n', Q o m' c' n' → Q' o m' c' n') : Wq g d M c n pc ls st m Q' := by
  intro p e R s mm args below meth cd H locs L QQ F hf hl hr hw hL hst hls hS hk
  exact q p e R s mm args below meth cd H locs L QQ F hf hl hr hw hL hst hls hS (fun o m' c' n' pc' L' st' H' locs' hQ => hk o m' c' n' pc' L' st' H' locs' (h _ _ _ _ hQ))
