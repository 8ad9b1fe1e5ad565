/-! RETURNS, CALLS -/
section RC
variable {g : GG} {d : Nat} {M : MD} {c n pc : Nat} {ls : List (Option PV)} {st : List PV} {m : PM} {Q : Ou → PM → Nat → Nat → Prop}
theorem Wq.iret {x : Int32} (hd : decode M.2.1 pc = .ok (.ireturn, 1)) (hn : ∃ rt, M.2.2.2.1 = some rt ∧ narrow rt (.int x) = .int x) (hQ : Q (.inl (some (pI x))) m c n) : Wq g d M c n pc ls [pI x] m Q := by
  intro p e R s mm args below meth cd H locs L QQ F hf hl hr hw hL hst hls hS hk
  exact hk (.inl (some (pI x))) m c n pc L [.int x] H locs hQ hw hL.1 hS ⟨hd, rfl, hn⟩
theorem Wq.lret {x : Int64} (hd : decode M.2.1 pc = .ok (.lreturn, 1)) (hn : M.2.2.2.1 = some .long) (hQ : Q (.inl (some (pL x))) m c n) : Wq g d M c n pc ls [pL x] m Q := by
  intro p e R s mm args below meth cd H locs L QQ F hf hl hr hw hL hst hls hS hk
  exact hk (.inl (some (pL x))) m c n pc L [.long x] H locs hQ hw hL.1 hS ⟨hd, rfl, hn⟩
theorem Wq.dret {x : UInt64} (hd : decode M.2.1 pc = .ok (.dreturn, 1)) (hn : M.2.2.2.1 = some .double) (hQ : Q (.inl (some (pD x))) m c n) : Wq g d M c n pc ls [pD x] m Q := by
  intro p e R s mm args below meth cd H locs L QQ F hf hl hr hw hL hst hls hS hk
  exact hk (.inl (some (pD x))) m c n pc L [.double x] H locs hQ hw hL.1 hS ⟨hd, rfl, hn⟩
theorem Wq.aret {t r j : Nat} (hd : decode M.2.1 pc = .ok (.areturn, 1)) (hn : ∃ n, M.2.2.2.1 = some (.object n)) (hQ : Q (.inl (some (pO t r j))) m c n) : Wq g d M c n pc ls [pO t r j] m Q := by
  intro p e R s mm args below meth cd H locs L QQ F hf hl hr hw hL hst hls hS hk
  exact hk (.inl (some (pO t r j))) m c n pc L [.ref (ga g t r j)] H locs hQ hw hL.1 hS ⟨hd, rfl, hn, hst.1⟩
theorem Wq.vret (hd : decode M.2.1 pc = .ok (.return_, 1)) (hn : M.2.2.2.1 = none) (hQ : Q (.inl none) m c n) : Wq g d M c n pc ls [] m Q := by
  intro p e R s mm args below meth cd H locs L QQ F hf hl hr hw hL hst hls hS hk
  exact hk (.inl none) m c n pc L [] H locs hQ hw hL.1 hS ⟨hd, rfl, hn⟩
theorem Wq.throw {E ik is ic : Nat} {tx : String} (hM : M.1 = "TestSlots") (d0 : decode M.2.1 pc = .ok (.new ik, 3)) (d3 : decode M.2.1 (pc + 3) = .ok (.dup, 1)) (d4 : decode M.2.1 (pc + 4) = .ok (.ldc is, 2)) (d6 : decode M.2.1 (pc + 6) = .ok (.invokespecial ic, 3)) (d9 : decode M.2.1 (pc + 9) = .ok (.athrow, 1)) (hs : (is, tx) ∈ exT) (hE : (E, ik, ic) ∈ [(1, 37, 41), (2, 94, 98), (3, 63, 67)]) (hQ : Q (.inr E) m c n) : Wq g d M c n pc ls [] m Q := by
  intro p e R s mm args below meth cd H locs L QQ F hf hl hr hw hL hst hls hS hk
  exact hk (.inr E) m c n pc L [] H locs hQ hw hL.1 hS ⟨ik, is, ic, tx, hM, d0, d3, d4, d6, d9, hs, hE, Nat.zero_le 8⟩
/-- the locals at a method's entry -/
def argL : List PV → List (Option PV)
  | [] => []
  | v :: l => if two (some v) then some v :: none :: argL l else some v :: argL l
theorem two_iff {g : GG} {v : PV} : (pv g v).category = 2 ↔ two (some v) = true := by
  rcases v with x | x | x | x <;> simp [pv, Value.category, two]
theorem argL_in {g : GG} : ∀ (avs : List PV) (i : Nat) (q : Nat × Value), q ∈ lp g i (argL avs) → q ∈ lv_args i (avs.map (pv g))
  | [], _, _, h => by cases h
  | v :: l, i, q, h => by
    unfold argL at h
    show q ∈ (i, pv g v) :: lv_args (if (pv g v).category = 2 then i + 2 else i + 1) (l.map (pv g))
    by_cases ht : two (some v) = true
    · rw [if_pos ht] at h
      rw [if_pos (two_iff.mpr ht)]
      rcases List.mem_cons.mp h with h | h
      · exact List.mem_cons.mpr (Or.inl h)
      · exact List.mem_cons.mpr (Or.inr (argL_in l (i + 2) q h))
    · rw [if_neg ht] at h
      rw [if_neg (fun z => ht (two_iff.mp z))]
      rcases List.mem_cons.mp h with h | h
      · exact List.mem_cons.mpr (Or.inl h)
      · exact List.mem_cons.mpr (Or.inr (argL_in l (i + 1) q h))
theorem argL_len {g : GG} : ∀ (avs : List PV), (lg_sl (avs.map (pv g))).length = (argL avs).length
  | [] => rfl
  | v :: l => by
    have ih := argL_len (g := g) l
    have e : lg_sl ((v :: l).map (pv g)) = (if (pv g v).category = 2 then [Slot.val (pv g v), .second] else [.val (pv g v)]) ++ lg_sl (l.map (pv g)) := by simp [lg_sl]
    have e2 : argL (v :: l) = if two (some v) then some v :: none :: argL l else some v :: argL l := rfl
    rw [e, List.length_append, ih, e2]
    by_cases ht : two (some v) = true
    · rw [if_pos ht, if_pos (two_iff.mpr ht)]
      simp only [List.length_cons, List.length_nil]
      omega
    · rw [if_neg ht, if_neg (fun z => ht (two_iff.mp z))]
      simp only [List.length_cons, List.length_nil]
      omega
theorem argL_all : ∀ {avs : List PV}, vAll avs → oAll (argL avs)
  | [], _ => trivial
  | v :: l, h => by
    unfold argL
    by_cases ht : two (some v) = true
    · rw [if_pos ht]
      exact ⟨h.1, argL_all h.2⟩
    · rw [if_neg ht]
      exact ⟨h.1, argL_all h.2⟩
/-- what a caller needs to know of a method: y by name; static or not -/
def MFs (y : MethodName) (M' : MD) (k : Nat) : Prop := y.cls = M'.1 ∧ (plainName y.cls = true ∧ M'.2.2.2.2 = []) ∧ Cond.code y M'.2.1 M'.2.2.1 M'.2.2.2.1 ∈ gTbl ∧ Cond.initialized y.cls ∈ gTbl ∧ (y.cls ≠ "java/lang/invoke/MethodHandle" ∧ y.cls ≠ "java/lang/invoke/VarHandle" ∧ (parseMethodDescriptor y.desc).map (fun d => d.parameters.length) = some k) ∧ M'.2.2.1 ≤ 14 ∧ Cond.static y ∈ gTbl
def MFv (y : MethodName) (M' : MD) (k : Nat) : Prop := y.cls = M'.1 ∧ (plainName y.cls = true ∧ M'.2.2.2.2 = []) ∧ Cond.code y M'.2.1 M'.2.2.1 M'.2.2.2.1 ∈ gTbl ∧ Cond.initialized y.cls ∈ gTbl ∧ (y.cls ≠ "java/lang/invoke/MethodHandle" ∧ y.cls ≠ "java/lang/invoke/VarHandle" ∧ (parseMethodDescriptor y.desc).map (fun d => d.parameters.length) = some k) ∧ M'.2.2.1 ≤ 14 ∧ Cond.instanceMethod y ∈ gTbl ∧ Cond.selects y.cls y y ∈ gTbl
/-- ends by their kind -/
def kQ (f : Option PV → PM → Prop) : Ou → PM → Prop := fun o m => match o with
  | .inl v => f v m
  | .inr _ => False
def cI (f : Int32 → PM → Prop) : Ou → PM → Prop := fun o m => match o with
  | .inl (some (.inl x)) => f x m
  | _ => False
def cL (f : Int64 → PM → Prop) : Ou → PM → Prop := fun o m => match o with
  | .inl (some (.inr (.inl x))) => f x m
  | _ => False
def cD (f : UInt64 → PM → Prop) : Ou → PM → Prop := fun o m => match o with
  | .inl (some (.inr (.inr (.inl x)))) => f x m
  | _ => False
def cO (f : Nat → Nat → Nat → PM → Prop) : Ou → PM → Prop := fun o m => match o with
  | .inl (some (.inr (.inr (.inr z)))) => f z.1 z.2.1 z.2.2 m
  | _ => False
def cV (f : PM → Prop) : Ou → PM → Prop := fun o m => match o with
  | .inl none => f m
  | _ => False
def vOKo (v : Option PV) : Prop := match v with
  | some v => vOK v
  | none => True
def QcM (g : GG) (Qp : Ou → PM → Prop) : Array Value → State → Outcome → State → Prop := fun _ st o t => (∃ (v : Option PV) (m' : PM), o = .returned (v.map (pv g)) ∧ Qp (.inl v) m' ∧ vOKo v ∧ World g m' t.heap) ∧ va_F (gA g) st t
abbrev PcM (g : GG) (avs : List PV) (m : PM) : Array Value → State → Prop := va_Pc (avs.map (pv g)) (fun U => World g m U.heap ∧ Kn g U)
theorem PcM_blind (avs : List PV) (m : PM) : FrameBlind (PcM g avs m) := fun _ _ _ _ h => ⟨h.1, h.2.1, h.2.2.same rfl rfl⟩
abbrev rmD (d : Nat) : Room := { frames := d, cells := 0, slots := 0, locals := 33 * d }
theorem met_of {M' : MD} {y : MethodName} {avs : List PV} {m : PM} {Qp : Ou → PM → Prop} (hcls : y.cls = M'.1) (hp : plainName y.cls = true ∧ M'.2.2.2.2 = []) (hlen : (argL avs).length ≤ M'.2.2.1) (hall : vAll avs) (hx : ∀ E m', ¬ Qp (.inr E) m') (hw : Wp g d M' 0 (argL avs) [] m Qp) :
    Met (gl g) y (Cond.code y M'.2.1 M'.2.2.1 M'.2.2.2.1 :: gTbl) (rmD d) (PcM g avs m) (QcM g Qp) 0 0 (gA g) := by
  refine Met.ofW (cc := M'.2.1) (maxL := M'.2.2.1) (ret := M'.2.2.2.1) hp.1 rfl ?_
  intro p e s mm args below meth cd s₁ B hml hv
  obtain ⟨rfl, hW, hKn⟩ := hv
  have hts : ∀ w ∈ gTbl, w.before ((avs.map (pv g)).toArray) s = true := fun w h => atoms_spec (ws := Cond.code y M'.2.1 M'.2.2.1 M'.2.2.2.1 :: gTbl) B.pre w (List.mem_cons_of_mem _ h)
  have hown : s.vm.findClass y.cls = some mm.cls := findClass_of_methodNamed B.named
  rw [hcls] at hown
  have hlocks : meth.locks = false := B.notSynchronized
  have htab : cd.exceptionTable.toList = tableOf M'.2.2.2.2 := by
    obtain ⟨meth9, c9, h1, h2, -, -, -, -, h7, -⟩ := Cond.code_spec B.named (atoms_spec (ws := Cond.code y M'.2.1 M'.2.2.1 M'.2.2.2.1 :: gTbl) B.pre _ List.mem_cons_self)
    cases Option.some.inj (h1.symm.trans B.method)
    cases Option.some.inj (h2.symm.trans (Stand.of_body B).code)
    rw [Array.isEmpty_iff.mp h7, hp.2]
    rfl
  have hl := lv_entry (avs.map (pv g)) (n := M'.2.2.1) (by rw [argL_len]; exact hlen)
  rw [lg_entry_eq]
  generalize (lg_sl (avs.map (pv g)) ++ List.replicate (M'.2.2.1 - (lg_sl (avs.map (pv g))).length) Slot.unset).toArray = L at hl ⊢
  refine hw p e _ s mm _ below meth cd s.heap [] L _ ⟨B.exec, B.bytes, hml, hown, hts, hKn, B.returns, hlocks, htab⟩ (Nat.le_refl d) (Nat.le_refl _) ⟨Nat.zero_le _, Nat.zero_le _⟩ hW ⟨hl.1, hl.2.1, fun q hq => hl.2.2 q (argL_in avs 0 q hq)⟩ trivial (argL_all hall) va_S.rf ?_
  rintro o m' c' n' pc' L' st' H' locs' ⟨rfl, rfl, hQ⟩ hw' hsz hS' hE
  match o, hQ, hE with
  | .inr E, hQ, _ => exact absurd hQ (hx E m')
  | .inl none, hQ, hE =>
    obtain ⟨h1, rfl, h3⟩ := hE
    exact W.vret B.exec B.bytes (B.returns.trans h3) (fun t ht hW2 => ⟨⟨none, m', rfl, hQ, trivial, by rw [ht]; exact hw'⟩, hS'.F ht⟩) hS'.2.2 h1
  | .inl (some (.inl x)), hQ, hE =>
    obtain ⟨h1, rfl, rt, h3, h4⟩ := hE
    exact W.zret (v := x) B.exec B.bytes (B.returns.trans h3) h4 (fun t ht hW2 => ⟨⟨some (pI x), m', rfl, hQ, trivial, by rw [ht]; exact hw'⟩, hS'.F ht⟩) hS'.2.2 h1
  | .inl (some (.inr (.inl x))), hQ, hE =>
    obtain ⟨h1, rfl, h3⟩ := hE
    exact W.lret (v := x) B.exec B.bytes (B.returns.trans h3) (fun t ht hW2 => ⟨⟨some (pL x), m', rfl, hQ, trivial, by rw [ht]; exact hw'⟩, hS'.F ht⟩) hS'.2.2 h1
  | .inl (some (.inr (.inr (.inl x)))), hQ, hE =>
    obtain ⟨h1, rfl, h3⟩ := hE
    exact W.dret (v := x) B.exec B.bytes (B.returns.trans h3) (fun t ht hW2 => ⟨⟨some (pD x), m', rfl, hQ, trivial, by rw [ht]; exact hw'⟩, hS'.F ht⟩) hS'.2.2 h1
  | .inl (some (.inr (.inr (.inr z)))), hQ, hE =>
    obtain ⟨h1, rfl, ⟨nm, h3⟩, h4⟩ := hE
    exact W.aret (v := .ref (ga g z.1 z.2.1 z.2.2)) B.exec B.bytes (B.returns.trans h3) (Or.inl ⟨nm, rfl⟩) (Or.inr ⟨_, rfl⟩) (fun t ht hW2 => ⟨⟨some (.inr (.inr (.inr z))), m', rfl, hQ, h4, by rw [ht]; exact hw'⟩, hS'.F ht⟩) hS'.2.2 h1
/-- behind a call -/
theorem after_run {p : Program} {e : Env} {R : Room} {s : State} {mm : MethodId} {args : Array Value} {below : List Frame} {meth : Method} {cd : Code} {H : Heap} {locs : List Loc} {L : Array Slot} {QQ : State → Prop} {st0 rest : List Value} {Qp : Ou → PM → Prop} {a : Array Value}
    (hr : va_Run p (gl g) e R s mm args below meth cd H locs c n 0 0 (F0 mm pc L st0) rest (QcM g Qp a) (gA g)) (hS : va_S (gA g) s.heap H locs)
    (kk : ∀ (v : Option PV) (m' : PM) (H1 : Heap) (locs1 : List Loc), Qp (.inl v) m' → vOKo v → World g m' H1 → va_S (gA g) s.heap H1 locs1 → W p (gl g) e R s mm args below meth cd H1 locs1 c n QQ (F0 mm (pc + 3) L ((v.map (pv g)).toList ++ rest))) :
    W p (gl g) e R s mm args below meth cd H locs c n QQ (F0 mm pc L st0) := by
  intro T hT X
  obtain ⟨v, st₀, t, T', L9, h0, X', hL, e1, e2, ⟨⟨u, m', hv, hp, hok, hw⟩, hz, hk⟩, st⟩ := hr T hT X
  cases hv
  rw [h0] at hz hk
  obtain ⟨t2, a1, b1⟩ := kk u m' T'.heap (locs ++ L9) hp hok (by rw [e1]; exact hw) ⟨Nat.le_trans hS.1 (by rw [e1]; exact hz), fun q h1 h2 => by rw [e1, hk q (Nat.lt_of_lt_of_le h1 hS.1) h2]; exact hS.2.1 q h1 h2, fun q hq => by
      rcases List.mem_append.mp hq with h | h
      · exact hS.2.2 q h
      · exact hL q h⟩ T' rfl X'
  exact ⟨t2, st t2 a1, b1⟩
theorem vAll_app : ∀ {a b : List PV}, vAll (a ++ b) → vAll a ∧ vAll b
  | [], _, h => ⟨trivial, h⟩
  | _ :: _, _, h => ⟨⟨h.1, (vAll_app h.2).1⟩, (vAll_app h.2).2⟩
theorem vAll_mk : ∀ {a b : List PV}, vAll a → vAll b → vAll (a ++ b)
  | [], _, _, h => h
  | _ :: _, _, h1, h2 => ⟨h1.1, vAll_mk h1.2 h2⟩
theorem vAll_rev : ∀ {a : List PV}, vAll a → vAll a.reverse
  | [], _ => trivial
  | v :: l, h => by
    rw [List.reverse_cons]
    exact vAll_mk (vAll_rev h.2) ⟨h.1, trivial⟩
def catS (st : List PV) : Nat := (st.map (fun v => if two (some v) then 2 else 1)).sum
theorem catS_le {st : List PV} (h : catS st ≤ 8) : ((st.map (pv g)).map fun v => v.category).sum ≤ 8 := by
  have e : (st.map (pv g)).map (fun v => v.category) = st.map (fun v => if two (some v) then 2 else 1) := by
    rw [List.map_map]
    refine List.map_congr_left fun v _ => ?_
    rcases v with x | x | x | x <;> simp [pv, Value.category, two]
  rw [e]
  exact h
theorem vo_list {v : Option PV} : (v.map (pv g)).toList ++ st.map (pv g) = (v.toList ++ st).map (pv g) := by cases v <;> rfl
theorem vo_all {v : Option PV} (h : vOKo v) (h2 : vAll st) : vAll (v.toList ++ st) := by
  cases v with
  | none => exact h2
  | some v => exact ⟨h, h2⟩
/-- the class of an object's kind -/
def clN (t : Nat) : String := if t = 0 then RX1 else if t = 4 then RX3 else if t = 5 then RX0 else if t = 10 then RX4 else if t = 12 then RX2 else ""
theorem clN_ok {t : Nat} {C : String} (h : clN t = C) (hC : C ≠ "") : ∃ T N, vwCl[cix t]? = some (C, T, N) ∧ ark t = none ∧ t < 41 := by
  subst h
  by_cases h0 : t = 0; · subst h0; exact ⟨TX1, 10, rfl, rfl, by decide⟩
  by_cases h4 : t = 4; · subst h4; exact ⟨TX3, 9, rfl, rfl, by decide⟩
  by_cases h5 : t = 5; · subst h5; exact ⟨TX0, 3, rfl, rfl, by decide⟩
  by_cases h10 : t = 10; · subst h10; exact ⟨TX4, 5, rfl, rfl, by decide⟩
  by_cases h12 : t = 12; · subst h12; exact ⟨TX2, 7, rfl, rfl, by decide⟩
  exact absurd (by unfold clN; rw [if_neg h0, if_neg h4, if_neg h5, if_neg h10, if_neg h12]) hC
/-- a call of a method of an object's own class, by its name -/
theorem Wq.callV {y : MethodName} {M' : MD} {idx t r j k : Nat} {As : List PV} {f : Option PV → PM → Prop} (hd : decode M.2.1 pc = .ok (.invokevirtual idx, 3)) (hM : MFv y M' k) (hl0 : Cond.methodLink M.1 idx y ∈ gTbl) (ht : clN t = y.cls) (hne : y.cls ≠ "") (hn : As.length = k) (hlen : (argL (pO t r j :: As)).length ≤ M'.2.2.1) (hrest : catS st ≤ 8)
    (q : Wp g d M' 0 (argL (pO t r j :: As)) [] m (kQ f)) (kk : ∀ v m', f v m' → Wq g (d + 1) M c n (pc + 3) ls (v.toList ++ st) m' Q) : Wq g (d + 1) M c n pc ls (As.reverse ++ pO t r j :: st) m Q := by
  intro p e R s mm args below meth cd H locs L QQ F hf hl hr hw hL hst hls hS hk
  obtain ⟨h1, h2, h3, h4, h5, h6, h7, h8⟩ := hM
  obtain ⟨hAr, hO⟩ := vAll_app hst
  have hAs : vAll As := by have := vAll_rev hAr; rwa [List.reverse_reverse] at this
  obtain ⟨T, N, hc, hark, h41⟩ := clN_ok ht hne
  obtain ⟨q0, hq⟩ := trip_ix (trip_of hO.1 h41)
  have he : (cells g m)[q0]? = some (ga g t r j, .inr (cix t, obv g m (t, r, j))) := by
    rw [cells_at hq]
    unfold cellE
    rw [show ark (t, r, j).1 = none from hark]
  have hG : GoodIn gTbl (wsV M.1 idx y.cls y (Cond.code y M'.2.1 M'.2.2.1 M'.2.2.2.1 :: gTbl)) := fun w hw => by
    have : w ∈ gTbl := by
      unfold wsV at hw
      simp only [List.cons_append, List.nil_append, List.mem_cons] at hw
      rcases hw with rfl | rfl | rfl | rfl | rfl | hw
      · exact hl0
      · exact h7
      · exact h8
      · exact h4
      · exact h3
      · exact hw
    exact gTbl_good w this
  have hMet : Met (gl g) y (Cond.code y M'.2.1 M'.2.2.1 M'.2.2.2.1 :: gTbl) (rmD d) (PcM g (pO t r j :: As) m) (QcM g (kQ f)) 0 0 (gA g) := met_of h1 h2 hlen ⟨hO.1, hAs⟩ (fun _ _ h => h) q
  have hcw := cwV (R := R) (s := s) (args := args) (mc := 0) (ms := 0) (rm := rmD d) k F.2.2.2.2.1 hG rfl rfl rfl ⟨rfl, h5⟩ ⟨hf, by show 8 + (M'.2.2.1 + 11) + 33 * d ≤ R.locals; omega⟩
  have hrun := va_runV (p := p) (l := gl g) (e := e) (below := below) (meth := meth) (H := H) (locs := locs) (cells := R.cells - c) (slots := R.slots - n) (g := F0 mm pc L ((As.reverse ++ pO t r j :: st).map (pv g))) (As := As.map (pv g)) (b := ga g t r j) (rest := st.map (pv g)) ⟨F.1, F.2.1, F.2.2.1, F.2.2.2.1, F.2.2.2.2.1⟩ hMet hcw
    ⟨PcM_blind _ _, ht ▸ va_recv F.2.2.2.2.2.1.2.1 hw (ht ▸ hc) he, fun U hU hW => ⟨rfl, by rw [hU]; exact hw, F.2.2.2.2.2.1.to hS hU hW⟩⟩ rfl (by rw [List.length_map]; exact hn) hL.1 (by simp [List.map_append, List.map_reverse, pv]) (lv_room (catS_le hrest)) hd ⟨Nat.sub_le _ _, Nat.sub_le _ _⟩
  refine after_run hrun hS (fun v m' H1 locs1 hQp hok hw1 hS1 => ?_)
  rw [vo_list]
  exact kk v m' hQp p e R s mm args below meth cd H1 locs1 L QQ F hf hl hr hw1 hL (vo_all hok hO.2) hls hS1 hk
/-- a static call -/
theorem Wq.callS {y : MethodName} {M' : MD} {idx k : Nat} {As : List PV} {f : Option PV → PM → Prop} (hd : decode M.2.1 pc = .ok (.invokestatic idx, 3)) (hM : MFs y M' k) (hl0 : Cond.methodLink M.1 idx y ∈ gTbl) (hn : As.length = k) (hlen : (argL As).length ≤ M'.2.2.1) (hrest : catS st ≤ 8)
    (q : Wp g d M' 0 (argL As) [] m (kQ f)) (kk : ∀ v m', f v m' → Wq g (d + 1) M c n (pc + 3) ls (v.toList ++ st) m' Q) : Wq g (d + 1) M c n pc ls (As.reverse ++ st) m Q := by
  intro p e R s mm args below meth cd H locs L QQ F hf hl hr hw hL hst hls hS hk
  obtain ⟨h1, h2, h3, h4, h5, h6, h7⟩ := hM
  obtain ⟨hAr, hO⟩ := vAll_app hst
  have hAs : vAll As := by have := vAll_rev hAr; rwa [List.reverse_reverse] at this
  have hG : GoodIn gTbl (va_wsS M.1 idx y (Cond.code y M'.2.1 M'.2.2.1 M'.2.2.2.1 :: gTbl)) := fun w hw => by
    have : w ∈ gTbl := by
      unfold va_wsS at hw
      simp only [List.cons_append, List.nil_append, List.mem_cons] at hw
      rcases hw with rfl | rfl | rfl | rfl | hw
      · exact hl0
      · exact h7
      · exact h4
      · exact h3
      · exact hw
    exact gTbl_good w this
  have hMet : Met (gl g) y (Cond.code y M'.2.1 M'.2.2.1 M'.2.2.2.1 :: gTbl) (rmD d) (PcM g As m) (QcM g (kQ f)) 0 0 (gA g) := met_of h1 h2 hlen hAs (fun _ _ h => h) q
  have hcw := va_cwS (R := R) (s := s) (args := args) (mc := 0) (ms := 0) (rm := rmD d) k F.2.2.2.2.1 hG rfl rfl rfl h5 ⟨hf, by show 8 + (M'.2.2.1 + 11) + 33 * d ≤ R.locals; omega⟩
  have hrun := va_runS (p := p) (l := gl g) (e := e) (below := below) (meth := meth) (H := H) (locs := locs) (cells := R.cells - c) (slots := R.slots - n) (g := F0 mm pc L ((As.reverse ++ st).map (pv g))) (As := As.map (pv g)) (rest := st.map (pv g)) ⟨F.1, F.2.1, F.2.2.1, F.2.2.2.1, F.2.2.2.2.1⟩ hMet hcw
    ⟨PcM_blind _ _, fun U hU hW => ⟨rfl, by rw [hU]; exact hw, F.2.2.2.2.2.1.to hS hU hW⟩⟩ rfl (by rw [List.length_map]; exact hn) hL.1 (by simp [List.map_append, List.map_reverse]) (lv_room (catS_le hrest)) hd ⟨Nat.sub_le _ _, Nat.sub_le _ _⟩
  refine after_run hrun hS (fun v m' H1 locs1 hQp hok hw1 hS1 => ?_)
  rw [vo_list]
  exact kk v m' hQp p e R s mm args below meth cd H1 locs1 L QQ F hf hl hr hw1 hL (vo_all hok hO) hls hS1 hk
/-- a static call of a nest mate's own method -/
theorem Wq.callN {y : MethodName} {M' : MD} {idx k : Nat} {As : List PV} {f : Option PV → PM → Prop} (hd : decode M.2.1 pc = .ok (.invokestatic idx, 3)) (hM : MFs y M' k) (hl0 : (M.1, idx, y) ∈ nestW) (hn : As.length = k) (hlen : (argL As).length ≤ M'.2.2.1) (hrest : catS st ≤ 8)
    (q : Wp g d M' 0 (argL As) [] m (kQ f)) (kk : ∀ v m', f v m' → Wq g (d + 1) M c n (pc + 3) ls (v.toList ++ st) m' Q) : Wq g (d + 1) M c n pc ls (As.reverse ++ st) m Q := by
  intro p e R s mm args below meth cd H locs L QQ F hf hl hr hw hL hst hls hS hk
  obtain ⟨h1, h2, h3, h4, h5, h6, h7⟩ := hM
  obtain ⟨hAr, hO⟩ := vAll_app hst
  have hAs : vAll As := by have := vAll_rev hAr; rwa [List.reverse_reverse] at this
  have hG : GoodIn gTbl (Cond.code y M'.2.1 M'.2.2.1 M'.2.2.2.1 :: gTbl) := fun w hw => by
    rcases List.mem_cons.mp hw with rfl | hw
    · exact gTbl_good _ h3
    · exact gTbl_good _ hw
  have hMet : Met (gl g) y (Cond.code y M'.2.1 M'.2.2.1 M'.2.2.2.1 :: gTbl) (rmD d) (PcM g As m) (QcM g (kQ f)) 0 0 (gA g) := met_of h1 h2 hlen hAs (fun _ _ h => h) q
  have hcw := va_cnB (R := R) (s := s) (args := args) (mc := 0) (ms := 0) (rm := rmD d) k F.2.2.2.2.1 hG rfl rfl rfl (F.2.2.2.2.2.1.2.2.1.2.2.2.2.2.2.2.1 _ hl0) (F.2.2.2.2.1 _ h4) h5 ⟨hf, by show 8 + (M'.2.2.1 + 11) + 33 * d ≤ R.locals; omega⟩
  have hrun := va_runSN (p := p) (l := gl g) (e := e) (below := below) (meth := meth) (H := H) (locs := locs) (cells := R.cells - c) (slots := R.slots - n) (g := F0 mm pc L ((As.reverse ++ st).map (pv g))) (As := As.map (pv g)) (rest := st.map (pv g)) ⟨F.1, F.2.1, F.2.2.1, F.2.2.2.1, F.2.2.2.2.1⟩ hMet ⟨hcw, F.2.2.2.2.1 _ h7, trivial⟩
    ⟨PcM_blind _ _, fun U hU hW => ⟨rfl, by rw [hU]; exact hw, F.2.2.2.2.2.1.to hS hU hW⟩⟩ rfl (by rw [List.length_map]; exact hn) hL.1 (by simp [List.map_append, List.map_reverse]) (lv_room (catS_le hrest)) hd ⟨Nat.sub_le _ _, Nat.sub_le _ _⟩
  refine after_run hrun hS (fun v m' H1 locs1 hQp hok hw1 hS1 => ?_)
  rw [vo_list]
  exact kk v m' hQp p e R s mm args below meth cd H1 locs1 L QQ F hf hl hr hw1 hL (vo_all hok hO) hls hS1 hk
end RC
