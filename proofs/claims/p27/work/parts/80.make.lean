/-! MAKING: the cells made so far, in the order of their making: S their addresses, C what they hold, N how many -/
abbrev BB : Type := Launch × va_G × (Nat → ClassId) × Nat × Nat
abbrev bl (B : BB) : Launch := B.1
abbrev bD (B : BB) : va_G := B.2.1
abbrev bc (B : BB) : Nat → ClassId := B.2.2.1
abbrev bF (B : BB) : Nat := B.2.2.2.1
abbrev bA (B : BB) : Nat → Prop := fun q => B.2.2.2.2 ≤ q
def tysC (B : BB) : List (ClassId × FieldType) := [(bc B 0, .int), (bc B 1, .int), (bc B 2, .int), (bc B 3, .object "TestSlots$Pupil"), (bc B 4, .object "TestSlots$Examiner"), (bc B 5, .object "TestSlots$Office")]
/-- what is known of a state -/
def Ky (B : BB) (U : State) : Prop := B.2.2.2.2 ≤ U.heap.size ∧ va_K (bD B) vwCl (tysC B) U ∧ (va_T .int (bF B) 4 fsT (bA B) U U.heap ∧ va_Z "TestSlots" "FIRST_SETTINGS" "[I" (.ref (bF B)) (bA B) U U.heap) ∧ (va_AO "TestSlots$Pupil" U ∧ va_AO "TestSlots$Examiner" U ∧ va_AO "TestSlots$Office" U) ∧ va_Nw (.fieldLinkNest RX1 27 "TestSlots" "FIRST_SETTINGS" "[I" "TestSlots") U ∧ (∀ z ∈ nestW, va_Nw (.methodLinkNest z.1 z.2.1 z.2.2 "TestSlots") U)
theorem Ky.to {B : BB} {s U : State} {H : Heap} {locs : List Loc} (h : Ky B s) (hS : va_S (bA B) s.heap H locs) (hU : U.heap = H) (hW : s.WarmedH U.vm) : Ky B U := by
  obtain ⟨h1, h2, ⟨h3, h4⟩, ⟨h5, h6, h7⟩, h9, h8⟩ := h
  subst hU
  have hq : ∀ q, q < s.heap.size → ¬ bA B q → U.heap[q]? = s.heap[q]? := hS.2.1
  exact ⟨Nat.le_trans h1 hS.1, h2.moved hW.alike, ⟨(h3.moved hW.alike).kept hq, (h4.moved hW.alike).kept hq⟩, ⟨h5.moved hW.alike, h6.moved hW.alike, h7.moved hW.alike⟩, h9.warmF hW, fun z hz => (h8 z hz).warmM hW⟩
theorem Ky.same {B : BB} {u U : State} (h : Ky B u) (hv : U.vm = u.vm) (hh : U.heap = u.heap) : Ky B U := by
  obtain ⟨h1, h2, ⟨h3, h4⟩, ⟨h5, h6, h7⟩, h9, h8⟩ := h
  have al : u.vm.Alike U.vm := by rw [hv]; exact Vm.Alike.refl _
  refine ⟨by rw [hh]; exact h1, h2.moved al, ?_, ⟨h5.moved al, h6.moved al, h7.moved al⟩, h9.same rfl hv.symm, fun z hz => (h8 z hz).same rfl hv.symm⟩
  rw [hh]
  exact ⟨(h3.moved al).kept (fun _ _ _ => rfl), (h4.moved al).kept (fun _ _ _ => rfl)⟩
def Fy (B : BB) (M : MD) (p : Program) (s : State) (mm : MethodId) (args : Array Value) (meth : Method) (cd : Code) : Prop :=
  p.tables.exec = Jvm.exec ∧ cd.code = M.2.1 ∧ cd.maxLocals = M.2.2.1 ∧ s.vm.findClass M.1 = some mm.cls ∧ (∀ w ∈ gTbl, w.before args s = true) ∧ Ky B s ∧ meth.sig.returnType = M.2.2.2.1 ∧ meth.locks = false ∧ (M.2.2.2.1 = none → M.1 ≠ "java/util/Arrays" → meth.name = "<init>")
def gws (S : Nat → Nat) (C : Nat → va_E) (N : Nat) : va_W := (List.range N).map (fun i => (S i, C i))
def Gw (B : BB) (S : Nat → Nat) (C : Nat → va_E) (N : Nat) (H : Heap) : Prop := va_P (bD B) vwCl (gws S C N) H ∧ va_D (bA B) (gws S C N)
abbrev EndQ : Type := (Nat → Nat) → (Nat → va_E) → Nat → Nat → List (Nat × Value) → Nat → Nat → Prop
def Wg (B : BB) (d : Nat) (M : MD) (c n pc : Nat) (ls : List (Nat × Value)) (st : List Value) (S : Nat → Nat) (C : Nat → va_E) (N : Nat) (Q : EndQ) : Prop :=
  ∀ (p : Program) (e : Env) (R : Room) (s : State) (mm : MethodId) (args : Array Value) (below : List Frame) (meth : Method) (cd : Code) (H : Heap) (locs : List Loc) (L : Array Slot) (QQ : State → Prop),
    Fy B M p s mm args meth cd → d ≤ R.frames → 33 * d ≤ R.locals → c ≤ R.cells ∧ n ≤ R.slots → Gw B S C N H → lv_has L M.2.2.1 ls → va_S (bA B) s.heap H locs →
    (∀ (S' : Nat → Nat) (C' : Nat → va_E) (N' pc' : Nat) (ls' : List (Nat × Value)) (c' n' : Nat) (L' : Array Slot) (H' : Heap) (locs' : List Loc), Q S' C' N' pc' ls' c' n' → Gw B S' C' N' H' → lv_has L' M.2.2.1 ls' → va_S (bA B) s.heap H' locs' → c' ≤ R.cells ∧ n' ≤ R.slots → W p (bl B) e R s mm args below meth cd H' locs' (R.cells - c') (R.slots - n') QQ (F0 mm pc' L' [])) →
    W p (bl B) e R s mm args below meth cd H locs (R.cells - c) (R.slots - n) QQ (F0 mm pc L st)
theorem gws_at {S : Nat → Nat} {C : Nat → va_E} {N i : Nat} (h : i < N) : (gws S C N)[i]? = some (S i, C i) := by simp [gws, h]
theorem gws_set {S : Nat → Nat} {C : Nat → va_E} {N i : Nat} {e : va_E} : (gws S C N).set i (S i, e) = gws S (va_up C i e) N := by
  apply List.ext_getElem?
  intro j
  rw [List.getElem?_set]
  unfold gws
  by_cases h : i = j
  · subst h
    by_cases hN : i < N
    · simp [hN, va_up]
    · simp [hN]
  · rw [if_neg h]
    by_cases hN : j < N
    · simp [hN, va_up, Ne.symm h]
    · simp [hN]
theorem gws_push {S : Nat → Nat} {C : Nat → va_E} {N q : Nat} {e : va_E} : gws S C N ++ [(q, e)] = gws (va_up S N q) (va_up C N e) (N + 1) := by
  unfold gws
  rw [List.range_succ, List.map_append]
  congr 1
  · refine List.map_congr_left fun i hi => ?_
    have : i ≠ N := by have := List.mem_range.mp hi; omega
    simp [va_up, this]
  · simp [va_up]
section MK
variable {B : BB} {d : Nat} {M : MD} {c n pc N : Nat} {ls : List (Nat × Value)} {st : List Value} {S : Nat → Nat} {C : Nat → va_E} {Q : EndQ}
theorem Wg.stop (h : Q S C N pc ls c n) : Wg B d M c n pc ls [] S C N Q := by
  intro p e R s mm args below meth cd H locs L QQ F hf hl hr hw hL hS hk
  exact hk S C N pc ls c n L H locs h hw hL hS hr
theorem Wg.few {ls' : List (Nat × Value)} (h : ∀ q ∈ ls', q ∈ ls) (q : Wg B d M c n pc ls' st S C N Q) : Wg B d M c n pc ls st S C N Q := by
  intro p e R s mm args below meth cd H locs L QQ F hf hl hr hw hL hS hk
  exact q p e R s mm args below meth cd H locs L QQ F hf hl hr hw ⟨hL.1, hL.2.1, fun z hz => hL.2.2 z (h z hz)⟩ hS hk
theorem Wg.mono {Q' : EndQ} (q : Wg B d M c n pc ls st S C N Q) (h : ∀ S C N pc ls c n, Q S C N pc ls c n → Q' S C N pc ls c n) : Wg B d M c n pc ls st S C N Q' := by
  intro p e R s mm args below meth cd H locs L QQ F hf hl hr hw hL hS hk
  exact q p e R s mm args below meth cd H locs L QQ F hf hl hr hw hL hS (fun S' C' N' pc' ls' c' n' L' H' locs' hQ => hk S' C' N' pc' ls' c' n' L' H' locs' (h _ _ _ _ _ _ _ hQ))
theorem Wg.iconst {k : Int} {v : Int32} (hd : decode M.2.1 pc = .ok (.iconst k, 1)) (hv : Int32.ofInt k = v) (q : Wg B d M c n (pc + 1) ls (.int v :: st) S C N Q) : Wg B d M c n pc ls st S C N Q := by
  intro p e R s mm args below meth cd H locs L QQ F hf hl hr hw hL hS hk
  exact lv_iconst F.1 F.2.1 hd hv (q p e R s mm args below meth cd H locs L QQ F hf hl hr hw hL hS hk)
theorem Wg.bipush {k : Int} {v : Int32} (hd : decode M.2.1 pc = .ok (.bipush k, 2)) (hv : (Int8.ofInt k).toInt32 = v) (q : Wg B d M c n (pc + 2) ls (.int v :: st) S C N Q) : Wg B d M c n pc ls st S C N Q := by
  intro p e R s mm args below meth cd H locs L QQ F hf hl hr hw hL hS hk
  exact lv_bipush F.1 F.2.1 hd hv (q p e R s mm args below meth cd H locs L QQ F hf hl hr hw hL hS hk)
theorem Wg.sipush {k : Int} {v : Int32} (hd : decode M.2.1 pc = .ok (.sipush k, 3)) (hv : (Int16.ofInt k).toInt32 = v) (q : Wg B d M c n (pc + 3) ls (.int v :: st) S C N Q) : Wg B d M c n pc ls st S C N Q := by
  intro p e R s mm args below meth cd H locs L QQ F hf hl hr hw hL hS hk
  exact lv_sipush F.1 F.2.1 hd hv (q p e R s mm args below meth cd H locs L QQ F hf hl hr hw hL hS hk)
theorem Wg.dup {a : Nat} (hd : decode M.2.1 pc = .ok (.dup, 1)) (q : Wg B d M c n (pc + 1) ls (.ref a :: .ref a :: st) S C N Q) : Wg B d M c n pc ls (.ref a :: st) S C N Q := by
  intro p e R s mm args below meth cd H locs L QQ F hf hl hr hw hL hS hk
  exact lv_dup F.1 F.2.1 hd rfl (q p e R s mm args below meth cd H locs L QQ F hf hl hr hw hL hS hk)
theorem Wg.goto {off : Int} {tgt : Nat} (hd : decode M.2.1 pc = .ok (.goto off, 3)) (ht : (pc : Int) + off = (tgt : Int)) (q : Wg B d M c n tgt ls st S C N Q) : Wg B d M c n pc ls st S C N Q := by
  intro p e R s mm args below meth cd H locs L QQ F hf hl hr hw hL hS hk
  exact lv_goto F.1 F.2.1 hd ht (q p e R s mm args below meth cd H locs L QQ F hf hl hr hw hL hS hk)
theorem Wg.icmpge {x y : Int32} {off : Int} {tgt : Nat} (hd : decode M.2.1 pc = .ok (.if_icmp .ge off, 3)) (ht : (pc : Int) + off = (tgt : Int)) (q1 : y ≤ x → Wg B d M c n tgt ls st S C N Q) (q2 : ¬ y ≤ x → Wg B d M c n (pc + 3) ls st S C N Q) : Wg B d M c n pc ls (.int y :: .int x :: st) S C N Q := by
  intro p e R s mm args below meth cd H locs L QQ F hf hl hr hw hL hS hk
  exact lv_icmp_ge F.1 F.2.1 hd ht (fun h => q1 h p e R s mm args below meth cd H locs L QQ F hf hl hr hw hL hS hk) (fun h => q2 h p e R s mm args below meth cd H locs L QQ F hf hl hr hw hL hS hk)
theorem Wg.aload_n {k : Fin 4} {a : Nat} (hd : decode M.2.1 pc = .ok (.aload_n k, 1)) (hx : ((k : Nat), Value.ref a) ∈ ls) (q : Wg B d M c n (pc + 1) ls (.ref a :: st) S C N Q) : Wg B d M c n pc ls st S C N Q := by
  intro p e R s mm args below meth cd H locs L QQ F hf hl hr hw hL hS hk
  exact lv_aload_n F.1 F.2.1 hd rfl (hL.2.2 _ hx) (q p e R s mm args below meth cd H locs L QQ F hf hl hr hw hL hS hk)
theorem Wg.iload_n {k : Fin 4} {x : Int32} (hd : decode M.2.1 pc = .ok (.iload_n k, 1)) (hx : ((k : Nat), Value.int x) ∈ ls) (q : Wg B d M c n (pc + 1) ls (.int x :: st) S C N Q) : Wg B d M c n pc ls st S C N Q := by
  intro p e R s mm args below meth cd H locs L QQ F hf hl hr hw hL hS hk
  exact lv_iload_n F.1 F.2.1 hd rfl (hL.2.2 _ hx) (q p e R s mm args below meth cd H locs L QQ F hf hl hr hw hL hS hk)
abbrev lsto (ls : List (Nat × Value)) (i : Nat) (v : Value) : List (Nat × Value) := (i, v) :: ls.filter (fun q => !(q.1 == i) && !(q.1 + 1 == i && q.2.category == 2))
theorem Wg.istore_n {k : Fin 4} {x : Int32} (hd : decode M.2.1 pc = .ok (.istore_n k, 1)) (hn : (k : Nat) < M.2.2.1) (q : Wg B d M c n (pc + 1) (lsto ls k (.int x)) st S C N Q) : Wg B d M c n pc ls (.int x :: st) S C N Q := by
  intro p e R s mm args below meth cd H locs L QQ F hf hl hr hw hL hS hk
  exact lv_istore_n F.1 F.2.1 hd rfl hL hn rfl (fun L2 hL2 => q p e R s mm args below meth cd H locs L2 QQ F hf hl hr hw hL2 hS hk)
theorem Wg.istore {i : Nat} {x : Int32} (hd : decode M.2.1 pc = .ok (.istore i, 2)) (hn : i < M.2.2.1) (q : Wg B d M c n (pc + 2) (lsto ls i (.int x)) st S C N Q) : Wg B d M c n pc ls (.int x :: st) S C N Q := by
  intro p e R s mm args below meth cd H locs L QQ F hf hl hr hw hL hS hk
  exact lv_istore F.1 F.2.1 hd hL hn rfl (fun L2 hL2 => q p e R s mm args below meth cd H locs L2 QQ F hf hl hr hw hL2 hS hk)
theorem Wg.astore_n {k : Fin 4} {a : Nat} (hd : decode M.2.1 pc = .ok (.astore_n k, 1)) (hn : (k : Nat) < M.2.2.1) (q : Wg B d M c n (pc + 1) (lsto ls k (.ref a)) st S C N Q) : Wg B d M c n pc ls (.ref a :: st) S C N Q := by
  intro p e R s mm args below meth cd H locs L QQ F hf hl hr hw hL hS hk
  exact lv_astore_n F.1 F.2.1 hd rfl hL hn rfl (fun L2 hL2 => q p e R s mm args below meth cd H locs L2 QQ F hf hl hr hw hL2 hS hk)
theorem Wg.iinc {i k : Nat} {a : Int} {x v : Int32} (hd : decode M.2.1 pc = .ok (.iinc i a, 3)) (hk0 : ls[k]? = some (i, .int x)) (hv : x + Int32.ofInt a = v) (hn : i < M.2.2.1) (q : Wg B d M c n (pc + 3) (lsto ls i (.int v)) st S C N Q) : Wg B d M c n pc ls st S C N Q := by
  intro p e R s mm args below meth cd H locs L QQ F hf hl hr hw hL hS hk
  exact lv_iinc F.1 F.2.1 hd hL hk0 hv hn rfl (fun L2 hL2 => q p e R s mm args below meth cd H locs L2 QQ F hf hl hr hw hL2 hS hk)
/-- a class whose objects are made -/
def NC (ci : Nat) (C : String) (k : Nat) (fs : List Value) : Prop := ∃ (T : u_T) (ty : Nat → FieldType), vwCl[ci]? = some (C, T, k) ∧ (∀ w ∈ u_ws C T k, w ∈ gTbl) ∧ (∀ j, j < k → parseFieldDescriptor (T j).2.2.1 = some (ty j)) ∧ Cond.instantiable C k ∈ gTbl ∧ Cond.initialized C ∈ gTbl ∧ ∀ j, j < k → defaultValue (ty j) = vp_V fs j
theorem Wg.new {ci idx k : Nat} {Cn : String} {fs : List Value} (hd : decode M.2.1 pc = .ok (.new idx, 3)) (h : NC ci Cn k fs) (hcl : Cond.classLink M.1 idx Cn ∈ gTbl) (q : ∀ S', (∀ i, i < N → S' i = S i) → Wg B d M c n (pc + 3) ls (.ref (S' N) :: st) S' (va_up C N (.inr (ci, fs))) (N + 1) Q) : Wg B d M (c + 1) (n + k) pc ls st S C N Q := by
  intro p e R s mm args below meth cd H locs L QQ F hf hl hr hw hL hS hk
  obtain ⟨T, ty, h1, h2, h3, h4, h5, h6⟩ := h
  refine va_new F.1 F.2.1 F.2.2.2.2.1 h2 ty h3 F.2.2.2.1 (F.2.2.2.2.1 _ hcl) (F.2.2.2.2.1 _ h4) (F.2.2.2.2.1 _ h5) F.2.2.2.2.2.1.2.1 hw.1 hw.2 hS (fun q hq => Nat.le_trans F.2.2.2.2.2.1.1 hq) h1 h6 (by omega) (by omega) hd (fun a H1 hP1 hD1 hS1 => ?_)
  rw [gws_push] at hP1 hD1
  have := q (va_up S N a) (fun i hi => by simp [va_up, Nat.ne_of_lt hi]) p e R s mm args below meth cd H1 locs L QQ F hf hl ⟨by omega, by omega⟩ ⟨hP1, hD1⟩ hL hS1 hk
  rw [show va_up S N a N = a by simp [va_up], show R.cells - c = R.cells - (c + 1) + 1 by omega, show R.slots - n = R.slots - (n + k) + k by omega] at this
  exact this
theorem Wg.newI {k : Nat} (hd : decode M.2.1 pc = .ok (.newarray .int, 2)) (h0 : Cond.arrayClass .int ∈ gTbl) {x : Int32} (hx : ¬ x < 0) (hk0 : x.toNatClampNeg = k) (hkb : k ≤ 100000) (q : ∀ S', (∀ i, i < N → S' i = S i) → Wg B d M c n (pc + 2) ls (.ref (S' N) :: st) S' (va_up C N (.inl (bc B 0, k, .inl (fun _ => 0)))) (N + 1) Q) : Wg B d M (c + 1) (n + k) pc ls (.int x :: st) S C N Q := by
  intro p e R s mm args below meth cd H locs L QQ F hf hl hr hw hL hS hk
  refine va_newa (atype := .int) (ty := .int) (a0 := (k, .inl (fun _ => 0))) F.1 F.2.1 (F.2.2.2.2.1 _ h0) rfl F.2.2.2.2.2.1.2.1 hw.1 hw.2 hS (fun q hq => Nat.le_trans F.2.2.2.2.2.1.1 hq) (fun _ => rfl) hx hk0 (by show k * 4 ≤ _; omega) (by omega) (by omega) hd (fun a cA H1 hK1 hP1 hD1 hS1 => ?_)
  have hc : cA = bc B 0 := by
    have a1 := (hK1.2 6 (cA, .int) rfl).2
    have a2 := (hK1.2 0 (bc B 0, .int) rfl).2
    exact Option.some.inj (a1.symm.trans a2)
  subst hc
  rw [gws_push] at hP1 hD1
  have := q (va_up S N a) (fun i hi => by simp [va_up, Nat.ne_of_lt hi]) p e R s mm args below meth cd H1 locs L QQ F hf hl ⟨by omega, by omega⟩ ⟨hP1, hD1⟩ hL hS1 hk
  rw [show va_up S N a N = a by simp [va_up], show R.cells - c = R.cells - (c + 1) + 1 by omega, show R.slots - n = R.slots - (n + k) + k by omega] at this
  exact this
/-- rows of objects: 3 pupils, 4 examiners, 5 offices -/
theorem Wg.newq {k t idx : Nat} {Cn : String} (hd : decode M.2.1 pc = .ok (.anewarray idx, 3)) (ht : (t = 3 ∧ Cn = "TestSlots$Pupil") ∨ (t = 4 ∧ Cn = "TestSlots$Examiner") ∨ (t = 5 ∧ Cn = "TestSlots$Office")) (hcl : Cond.classLink M.1 idx Cn ∈ gTbl) {x : Int32} (hx : ¬ x < 0) (hk0 : x.toNatClampNeg = k) (hkb : k ≤ 100000) (q : ∀ S', (∀ i, i < N → S' i = S i) → Wg B d M c n (pc + 3) ls (.ref (S' N) :: st) S' (va_up C N (.inl (bc B t, k, .inr (.inr (.inr (.inr (fun _ => none))))))) (N + 1) Q) : Wg B d M (c + 1) (n + k) pc ls (.int x :: st) S C N Q := by
  intro p e R s mm args below meth cd H locs L QQ F hf hl hr hw hL hS hk
  have hover : va_AO Cn s := by
    rcases ht with ⟨_, rfl⟩ | ⟨_, rfl⟩ | ⟨_, rfl⟩
    · exact F.2.2.2.2.2.1.2.2.2.1.1
    · exact F.2.2.2.2.2.1.2.2.2.1.2.1
    · exact F.2.2.2.2.2.1.2.2.2.1.2.2
  have hty : (tysC B)[t]? = some (bc B t, .object Cn) := by
    rcases ht with ⟨rfl, rfl⟩ | ⟨rfl, rfl⟩ | ⟨rfl, rfl⟩ <;> rfl
  have h6 : t < 6 := by omega
  refine va_newq F.1 F.2.1 F.2.2.2.1 (F.2.2.2.2.1 _ hcl) hover F.2.2.2.2.2.1.2.1 hw.1 hw.2 hS (fun q hq => Nat.le_trans F.2.2.2.2.2.1.1 hq) hx hk0 (by omega) (by omega) (by omega) hd (fun a cA H1 hK1 hP1 hD1 hS1 => ?_)
  have hc : cA = bc B t := by
    obtain ⟨kA, comp, _, _, _, a1⟩ := (hK1.2 6 (cA, .object Cn) rfl).2
    obtain ⟨kA', comp', _, _, _, a2⟩ := (hK1.2 t (bc B t, .object Cn) (by rw [List.getElem?_append_left (by exact h6)]; exact hty)).2
    exact Option.some.inj (a1.symm.trans a2)
  subst hc
  rw [gws_push] at hP1 hD1
  have := q (va_up S N a) (fun i hi => by simp [va_up, Nat.ne_of_lt hi]) p e R s mm args below meth cd H1 locs L QQ F hf hl ⟨by omega, by omega⟩ ⟨hP1, hD1⟩ hL hS1 hk
  rw [show va_up S N a N = a by simp [va_up], show R.cells - c = R.cells - (c + 1) + 1 by omega, show R.slots - n = R.slots - (n + k) + k by omega] at this
  exact this
/-- a field as an instruction names it -/
def FY (own : String) (idx ci k : Nat) (fin : Bool) (ty : FieldType) : Prop := ∃ (C : String) (T : u_T) (Nn : Nat) (ty0 : Nat → FieldType), vwCl[ci]? = some (C, T, Nn) ∧ k < Nn ∧ (∀ w ∈ u_ws C T Nn, w ∈ gTbl) ∧ Cond.fieldLink own idx (T k).1 (T k).2.1 (T k).2.2.1 ∈ gTbl ∧ (∀ k, k < Nn → parseFieldDescriptor (T k).2.2.1 = some (ty0 k)) ∧ (∀ a, a < Nn → ∀ b, b < Nn → a ≠ b → (T a).2.1 ≠ (T b).2.1) ∧ (T k).2.2.2 = fin ∧ parseFieldDescriptor (T k).2.2.1 = some ty ∧ (T k).1 = own
theorem Wg.put {idx ci k i : Nat} {fin : Bool} {ty : FieldType} {fs : List Value} {v : Value} (hd : decode M.2.1 pc = .ok (.putfield idx, 3)) (h : FY M.1 idx ci k fin ty) (hM : M.2.2.2.1 = none ∧ M.1 ≠ "java/util/Arrays") (hi : i < N) (hC : C i = .inr (ci, fs)) (hl0 : k < fs.length) (hn : narrow ty v = v) (hfit : fits ty v = true) (q : Wg B d M c n (pc + 3) ls st S (va_up C i (.inr (ci, fs.set k v))) N Q) : Wg B d M c n pc ls (v :: .ref (S i) :: st) S C N Q := by
  intro p e R s mm args below meth cd H locs L QQ F hf hl hr hw hL hS hk
  obtain ⟨Cn, T, Nn, ty0, h1, h2, h3, h4, h5, h6, h7, h8, h9⟩ := h
  have he : (gws S C N)[i]? = some (S i, .inr (ci, fs)) := by rw [gws_at hi, hC]
  cases fin with
  | false =>
    refine va_put F.1 F.2.1 F.2.2.2.2.1 h3 ty0 h5 h6 F.2.2.2.1 F.2.2.2.2.2.1.2.1 hw.1 hw.2 hS i he h1 k h2 (F.2.2.2.2.1 _ h4) (fun _ h => h) h7 h8 hn hfit hl0 hd (fun H1 locs1 hP1 hD1 hS1 => ?_)
    rw [gws_set] at hP1 hD1
    exact q p e R s mm args below meth cd H1 locs1 L QQ F hf hl hr ⟨hP1, hD1⟩ hL hS1 hk
  | true =>
    refine va_putF F.1 F.2.1 F.2.2.2.2.1 h3 ty0 h5 h6 F.2.2.2.1 F.2.2.2.2.2.1.2.1 hw.1 hw.2 hS i he h1 k h2 (F.2.2.2.2.1 _ h4) (fun _ h => h) h7 (F.2.2.2.2.2.2.2.2 hM.1 hM.2) h9 h8 hn hfit hl0 hd (fun H1 locs1 hP1 hD1 hS1 => ?_)
    rw [gws_set] at hP1 hD1
    exact q p e R s mm args below meth cd H1 locs1 L QQ F hf hl hr ⟨hP1, hD1⟩ hL hS1 hk
theorem Wg.get {idx ci k i : Nat} {fin : Bool} {ty : FieldType} {fs : List Value} {v : Value} (hd : decode M.2.1 pc = .ok (.getfield idx, 3)) (h : FY M.1 idx ci k fin ty) (hi : i < N) (hC : C i = .inr (ci, fs)) (hv : fs[k]? = some v) (q : Wg B d M c n (pc + 3) ls (v :: st) S C N Q) : Wg B d M c n pc ls (.ref (S i) :: st) S C N Q := by
  intro p e R s mm args below meth cd H locs L QQ F hf hl hr hw hL hS hk
  obtain ⟨Cn, T, Nn, ty0, h1, h2, h3, h4, h5, h6, h7, h8, h9⟩ := h
  have he : (gws S C N)[i]? = some (S i, .inr (ci, fs)) := by rw [gws_at hi, hC]
  exact va_get F.1 F.2.1 F.2.2.2.2.1 h3 F.2.2.2.1 F.2.2.2.2.2.1.2.1 hw.1 i he h1 k h2 (F.2.2.2.2.1 _ h4) (fun _ h => h) hv hd (q p e R s mm args below meth cd H locs L QQ F hf hl hr hw hL hS hk)
theorem Wg.alen {i t : Nat} {cA : ClassId} {ty : FieldType} {a : vp_A} {v : Int32} (hd : decode M.2.1 pc = .ok (.arraylength, 1)) (hi : i < N) (hC : C i = .inl (cA, a)) (ht : (tysC B)[t]? = some (cA, ty)) (hv : Int32.ofNat a.1 = v) (q : Wg B d M c n (pc + 1) ls (.int v :: st) S C N Q) : Wg B d M c n pc ls (.ref (S i) :: st) S C N Q := by
  intro p e R s mm args below meth cd H locs L QQ F hf hl hr hw hL hS hk
  have he : (gws S C N)[i]? = some (S i, .inl (cA, a)) := by rw [gws_at hi, hC]
  exact va_alen F.1 F.2.1 F.2.2.2.2.2.1.2.1 hw.1 i t he ht hv hd (q p e R s mm args below meth cd H locs L QQ F hf hl hr hw hL hS hk)
theorem Wg.iast {i k : Nat} {f : Nat → Int32} {x z : Int32} (hd : decode M.2.1 pc = .ok (.iastore, 1)) (hi : i < N) (hC : C i = .inl (bc B 0, k, .inl f)) (hx : vp_in x k) (q : Wg B d M c n (pc + 1) ls st S (va_up C i (.inl (bc B 0, k, .inl (upd f x.toNatClampNeg z)))) N Q) : Wg B d M c n pc ls (.int z :: .int x :: .ref (S i) :: st) S C N Q := by
  intro p e R s mm args below meth cd H locs L QQ F hf hl hr hw hL hS hk
  have he : (gws S C N)[i]? = some (S i, .inl (bc B 0, k, .inl f)) := by rw [gws_at hi, hC]
  refine va_iast F.1 F.2.1 F.2.2.2.2.2.1.2.1 hw.1 hw.2 hS i 0 he rfl hx hd (fun H1 locs1 hP1 hD1 hS1 => ?_)
  rw [gws_set] at hP1 hD1
  exact q p e R s mm args below meth cd H1 locs1 L QQ F hf hl hr ⟨hP1, hD1⟩ hL hS1 hk
theorem Wg.astq {i j k t ci : Nat} {r : vw_C} {f : Nat → Option Nat} {vs : List Value} {x : Int32} (hd : decode M.2.1 pc = .ok (.aastore, 1)) (hi : i < N) (hj : j < N) (hC : C i = .inl (bc B t, k, .inr (.inr (.inr (.inr f))))) (hCj : C j = .inr (ci, vs)) (hr : vwCl[ci]? = some r) (ht : (tysC B)[t]? = some (bc B t, .object r.1)) (hx : vp_in x k) (q : Wg B d M c n (pc + 1) ls st S (va_up C i (.inl (bc B t, k, .inr (.inr (.inr (.inr (va_up f x.toNatClampNeg (some (S j)))))))) ) N Q) : Wg B d M c n pc ls (.ref (S j) :: .int x :: .ref (S i) :: st) S C N Q := by
  intro p e R s mm args below meth cd H locs L QQ F hf hl hr0 hw hL hS hk
  have he : (gws S C N)[i]? = some (S i, .inl (bc B t, k, .inr (.inr (.inr (.inr f))))) := by rw [gws_at hi, hC]
  have hj' : (gws S C N)[j]? = some (S j, .inr (ci, vs)) := by rw [gws_at hj, hCj]
  refine va_astq F.1 F.2.1 F.2.2.2.2.2.1.2.1 hw.1 hw.2 hS i t j ci he ht hj' hr hx hd (fun H1 locs1 hP1 hD1 hS1 => ?_)
  rw [gws_set] at hP1 hD1
  exact q p e R s mm args below meth cd H1 locs1 L QQ F hf hl hr0 ⟨hP1, hD1⟩ hL hS1 hk
theorem Wg.obj {idx a : Nat} (hd : decode M.2.1 pc = .ok (.invokespecial idx, 3)) (h0 : Cond.methodLink M.1 idx Lib.objectInit ∈ gTbl) (h1 : Cond.instanceMethod Lib.objectInit ∈ gTbl) (h2 : Cond.code Lib.objectInit ⟨#[0xb1]⟩ 1 none ∈ gTbl) (q : Wg B (d + 1) M c n (pc + 3) ls [] S C N Q) : Wg B (d + 1) M c n pc ls [.ref a] S C N Q := by
  intro p e R s mm args below meth cd H locs L QQ F hf hl hr hw hL hS hk
  exact W.objInit F.1 F.2.1 F.2.2.2.1 (F.2.2.2.2.1 _ h0) (F.2.2.2.2.1 _ h1) (F.2.2.2.2.1 _ h2) rfl (by rw [F.2.2.1]; exact hL.1) rfl hd (by omega) (by show 2 * 0 + 0 + 12 ≤ _; omega) (q p e R s mm args below meth cd H locs L QQ F hf hl hr hw hL hS hk)
theorem Wg.getsF (hd : decode M.2.1 pc = .ok (.getstatic 27, 3)) (hM : M.1 = RX1) (q : Wg B d M c n (pc + 3) ls (.ref (bF B) :: st) S C N Q) : Wg B d M c n pc ls st S C N Q := by
  intro p e R s mm args below meth cd H locs L QQ F hf hl hr hw hL hS hk
  have hm := F.2.2.2.1
  rw [hM] at hm
  exact va_getsN F.1 F.2.1 F.2.2.2.2.2.1.2.2.1.2 hS hm (va_Nw.use rfl F.2.2.2.2.2.1.2.2.2.2.1) (fun _ h => h) hd (q p e R s mm args below meth cd H locs L QQ F hf hl hr hw hL hS hk)
theorem Wg.lenF (hd : decode M.2.1 pc = .ok (.arraylength, 1)) (q : Wg B d M c n (pc + 1) ls (.int 4 :: st) S C N Q) : Wg B d M c n pc ls (.ref (bF B) :: st) S C N Q := by
  intro p e R s mm args below meth cd H locs L QQ F hf hl hr hw hL hS hk
  exact va_tlen (v := 4) F.1 F.2.1 F.2.2.2.2.2.1.2.2.1.1 hS rfl hd (q p e R s mm args below meth cd H locs L QQ F hf hl hr hw hL hS hk)
end MK
