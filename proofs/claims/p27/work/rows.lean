section
-- ===== PART A: goes FIRST, ahead of the names: the tables' words, and 'selects' of the private methods out of them =====
/-- a private method of a class that the tables say can be made, by its rows of tables_1 -/
def lw_okq (q : MethodName × Nat) : Prop := (q.1.cls ≠ "java/lang/invoke/MethodHandle" ∧ q.1.cls ≠ "java/lang/invoke/VarHandle") ∧ Cond.instantiable q.1.cls q.2 ∈ tables_1 ∧ Cond.privateMethod q.1 ∈ tables_1 ∧ Cond.instanceMethod q.1 ∈ tables_1
theorem lw_p0 : lw_okq (⟨"java/lang/Throwable", "fillInStackTrace", "(I)Ljava/lang/Throwable;"⟩, 6) := ⟨⟨by decide +kernel, by decide +kernel⟩, List.mem_of_getElem? (i := 225) (by decide +kernel), List.mem_of_getElem? (i := 223) (by decide +kernel), List.mem_of_getElem? (i := 224) (by decide +kernel)⟩
theorem lw_p1 : lw_okq (⟨"TestSlots", "save", "()V"⟩, 5) := ⟨⟨by decide +kernel, by decide +kernel⟩, List.mem_of_getElem? (i := 16) (by decide +kernel), List.mem_of_getElem? (i := 255) (by decide +kernel), List.mem_of_getElem? (i := 256) (by decide +kernel)⟩
theorem lw_p2 : lw_okq (⟨"TestSlots", "dropOldestSave", "()V"⟩, 5) := ⟨⟨by decide +kernel, by decide +kernel⟩, List.mem_of_getElem? (i := 16) (by decide +kernel), List.mem_of_getElem? (i := 259) (by decide +kernel), List.mem_of_getElem? (i := 260) (by decide +kernel)⟩
def lw_privs_1 : List (MethodName × Nat) := [(⟨"java/lang/Throwable", "fillInStackTrace", "(I)Ljava/lang/Throwable;"⟩, 6), (⟨"TestSlots", "save", "()V"⟩, 5), (⟨"TestSlots", "dropOldestSave", "()V"⟩, 5)]
theorem lw_r1 : ∀ q ∈ lw_privs_1, lw_okq q := List.forall_mem_cons.mpr ⟨lw_p0, List.forall_mem_cons.mpr ⟨lw_p1, List.forall_mem_cons.mpr ⟨lw_p2, fun _ h => absurd h List.not_mem_nil⟩⟩⟩
def lw_privs : List (MethodName × Nat) := lw_privs_1
def lw_tbl : List Cond := k2_sels lw_privs ++ tables_1
theorem lw_privs_ok : ∀ q ∈ lw_privs, lw_okq q := lw_r1
-- ===== end of PART A; then your names; then what follows =====
end
section
/-! ===== BEGIN words of one list among another's, by their places ===== -/
theorem goodIn_r {big : List Cond} (ws : List Cond) (ps : List Nat) (hp : ws = ps.filterMap (fun i => big[i]?)) (h : ws.all goodWord = true) : GoodIn big ws := by
  intro w hw
  have h1 := List.all_eq_true.mp h w hw
  rw [hp] at hw
  obtain ⟨i, -, hi⟩ := List.mem_filterMap.mp hw
  have hm : w ∈ big := by first | exact List.mem_of_getElem? hi | exact List.getElem?_mem hi
  exact ⟨hm, good_of_word h1⟩
theorem goodIn_app {big a b : List Cond} (ha : GoodIn big a) (hb : GoodIn big b) : GoodIn big (a ++ b) := fun w h => (List.mem_append.mp h).elim (ha w) (hb w)
theorem goodIn_ca {big a b : List Cond} {c : Cond} (ha : GoodIn big (c :: a)) (hb : GoodIn big b) : GoodIn big (c :: (a ++ b)) := fun w h => (List.mem_cons.mp h).elim (fun e => ha w (List.mem_cons.mpr (Or.inl e))) (fun h => (List.mem_append.mp h).elim (fun h => ha w (List.mem_cons.mpr (Or.inr h))) (hb w))
theorem goodIn_sub {big ws : List Cond} (hm : ∀ w ∈ ws, w ∈ big) (h : ws.all goodWord = true) : GoodIn big ws := fun w hw => ⟨hm w hw, good_of_word (List.all_eq_true.mp h w hw)⟩
/-! ===== END ===== -/

/-! ===== BEGIN exceptions that leave a method, and their catching by the caller (launches without stack traces) ===== -/
section VXA
/-! The laws vx_back, vx_callV, vx_callS, vx_callSW, vx_throw0, vx_throwS follow proofs of the library, with one case more: JvmDerived/Free/Laws.lean (Back.of_free), Shelf42/LK1.lean (callV, callS), Shelf/KitTraced.lean (throwNew0V, throwNewS). -/
/-- where a method has thrown q: the class by its name, the cell, what was written, the world -/
def vx_T (XC : String → State → State → Prop) (st : State) (q : Addr) (t : State) (mc ms : Nat) (free : Addr → Prop) : Prop :=
  ∃ (E : String) (ce : Cell) (L : List Loc), XC E st t ∧ t.heap[q]? = some ce ∧ ce.vm = .none ∧ st.vm.findClass E = some ce.cls ∧ st.WarmedH t.vm ∧ st.sameButNew ({ t with vm := st.vm } : State) L mc ms ∧ ∀ z ∈ L, free z.base
def vx_Q (Qc : Array Value → State → Outcome → State → Prop) (XC : String → State → State → Prop) (mc ms : Nat) (free : Addr → Prop) : Array Value → State → Outcome → State → Prop := fun a st o t =>
  (Qc a st o t ∧ ∃ L, FrameEnd st o t L mc ms ∧ ∀ q ∈ L, free q.base) ∨ ∃ q, o = .threw q ∧ vx_T XC st q t mc ms free
/-- a callee that returns or throws -/
def vx_Met (l : Launch) (y : MethodName) (ws : List Cond) (rm : Room) (Pc : Array Value → State → Prop) (Qc : Array Value → State → Outcome → State → Prop) (XC : String → State → State → Prop) (mc ms : Nat) (free : Addr → Prop) : Prop :=
  MetFree l y (headSpec ws rm) Pc (fun _ _ _ _ _ => True) (vx_Q Qc XC mc ms free)
def vx_Post (XC : String → State → State → Prop) (mc ms : Nat) (free : Addr → Prop) : Pt → Array Value → Addr → Pt → Prop := fun A a q B =>
  ∃ (g : JFrame) (mk : MethodId) (t : State) (L : List Loc) (E : String) (ce : Cell), B.U.heap = t.heap ∧ B.U.vm = t.vm ∧ XC E (A.U.calling g mk a) t ∧ t.heap[q]? = some ce ∧ ce.vm = .none ∧ A.U.vm.findClass E = some ce.cls ∧ B.locs = A.locs ++ L ∧ (∀ z ∈ L, free z.base) ∧ B.cells = A.cells + mc ∧ B.slots = A.slots + ms
def vx_Back (l : Launch) (R : Room) (p : Program) (e : Env) (below : List Frame) (s : State) (sargs : Array Value) (y : MethodName) (len W9 : Nat)
    (Pre : Pt → Array Value → Prop) (Post : Pt → Array Value → Option Value → Pt → Prop) (PostX : Pt → Array Value → Addr → Pt → Prop) : Prop :=
  ∀ (m : MethodId) (meth : Method) (c : Code) (A : Pt) (g : JFrame) (ig : Instr) (mk : MethodId) (a : Array Value),
    Stand p l e R s m sargs below meth c A.U A.locs A.cells A.slots → g.method = m → g.locals.size = c.maxLocals → decode c.code g.pc = .ok (ig, len) →
    2 * g.monitorRoom + (g.stack.map fun v => v.category).sum ≤ W9 → A.U.methodNamed? y = some mk → Pre A a →
    (∃ (v : Option Value) (B : Pt), Stand p l e R s m sargs below meth c B.U B.locs B.cells B.slots ∧ Post A a v B ∧
      Steps p.tables e below (doInvoke e (A.U.setTop g) [] mk a).1 (B.U.setTop { g with pc := g.pc + len, stack := v.toList ++ g.stack })) ∨
    (∃ (q : Addr) (B : Pt), Stand p l e R s m sargs below meth c B.U B.locs B.cells B.slots ∧ PostX A a q B ∧
      Steps p.tables e below (doInvoke e (A.U.setTop g) [] mk a).1 ((B.U.setTop g).pushFrame (.throwing q)))
section Payer
variable {l : Launch} {R : Room} {p : Program} {e : Env} {below : List Frame} {s : State} {sargs : Array Value} {y : MethodName} {len W9 : Nat}
theorem vx_back {ws : List Cond} {rm : Room} {Pc : Array Value → State → Prop} {Qc : Array Value → State → Outcome → State → Prop} {XC : String → State → State → Prop} {mc ms : Nat} {free : Addr → Prop} {bytes : ByteArray} {maxL : Nat} {ret : Option FieldType}
    (hM : vx_Met l y ws rm Pc Qc XC mc ms free) (hblind : FrameBlind Pc) (hrc : rm.cells = mc) (hrs : rm.slots = ms)
    (hframes : rm.frames + 1 ≤ R.frames) (hlocals : W9 + (maxL + 11) + rm.locals ≤ R.locals)
    (hws : ∀ w ∈ ws, ∀ a' U, s.WarmedH U.vm → w.before a' U = true) (hcode : Cond.code y bytes maxL ret ∈ ws) (hinit : ∀ a' U, s.WarmedH U.vm → (Cond.initialized y.cls).before a' U = true) :
    vx_Back l R p e below s sargs y len W9 (PreOf R mc ms Pc) (PostOf Qc mc ms free) (vx_Post XC mc ms free) := by
  intro m meth c A g ig mk a X hg hsize hdg hW hn hp
  have h1 : (headSpec ws rm).pre.before a A.U = true := atoms_intro fun w hw => hws w hw _ _ X.warmed
  have h2 : (Cond.code y bytes maxL ret).before a A.U = true := hws _ hcode _ _ X.warmed
  have h3 : (Cond.initialized y.cls).before a A.U = true := hinit _ _ X.warmed
  have h4 : A.cells + (headSpec ws rm).room.cells ≤ R.cells := by rw [show (headSpec ws rm).room.cells = mc from hrc]; exact hp.1
  have h5 : A.slots + (headSpec ws rm).room.slots ≤ R.slots := by rw [show (headSpec ws rm).room.slots = ms from hrs]; exact hp.2.1
  have hPc : Pc a (A.U.calling g mk a) := hblind _ _ _ _ hp.2.2
  obtain ⟨U, Ls, c0, s0⟩ := A
  dsimp only [Pt.U, Pt.locs, Pt.cells, Pt.slots] at h1 h2 h3 h4 h5 X hn hPc ⊢
  obtain ⟨methY, cY, hmY, hcY, -, hlY, -, -, -, -⟩ := Cond.code_spec hn h2
  obtain ⟨kY, hkY, -⟩ := className_of_methodNamed hn
  have hinitY : kY.init = .initialized := Cond.initialized_spec (findClass_of_methodNamed hn) hkY h3
  have h : At U g.method c below := by rw [hg]; exact X.here
  have hlocals9 : W9 + (maxL + 11) + (headSpec ws rm).room.locals ≤ R.locals := hlocals
  have happ : (headSpec ws rm).appliesLoose y e.platform (U.calling g mk a) = true :=
    Spec.appliesLoose_calling (g := g) h hdg hn hkY hinitY
      (X.room_calling (g := g) (R' := (headSpec ws rm).room) hsize hmY hcY hframes (by rw [hlY]; omega) h4 h5) h1
  obtain ⟨mid, hmid⟩ := h.above
  have hfr : (U.setTop g).frames = (.java g :: mid) ++ below := by rw [State.frames_setTop' g h.top, hmid]; rfl
  obtain ⟨o, s₂, hsteps, -, hend, hq⟩ := Steps.callFree hM p X.admits X.cas X.clock (acts := []) hfr happ hPc trivial
  have hq' : vx_Q Qc XC mc ms free a (U.calling g mk a) o s₂ := hq
  rw [State.frames_setTop' g h.top] at hend
  obtain ⟨g₀, hg0⟩ := Option.isSome_iff_exists.mp h.top
  obtain ⟨r, hr⟩ := State.topJava?_eq_some.mp hg0
  have hr' : (({ U with heap := s₂.heap, slotsUsed := s₂.slotsUsed } : State).setVm s₂.vm).frames = .java g₀ :: r := hr
  rcases hq' with ⟨hqc, L, hfe, hL⟩ | ⟨q, rfl, E, ce, L, hx, hce, hcv, hcl, hW₂, hsm, hL⟩
  · obtain ⟨⟨v, rfl⟩, hW₂, e2, q2, q3, q4, q5, q6⟩ := id hfe
    have e3 : s₂ = ({ (U.calling g mk a).setFrames s₂.frames with heap := s₂.heap, slotsUsed := s₂.slotsUsed } : State).setVm s₂.vm := by
      have : s₂ = ({ s₂ with vm := (U.calling g mk a).vm } : State).setVm s₂.vm := rfl
      rw [e2] at this
      exact this
    obtain ⟨c₂, i₂, len₂, hc₂, hd₂, hf₂⟩ := hend
    have hW' : U.WarmedH s₂.vm := hW₂
    have hcc : c₂ = c := by
      have h1 : s₂.code? g.method = U.code? g.method := by
        rw [State.code?_eq, State.code?_eq, hW'.alike.method?]
      exact Option.some.inj (hc₂.symm.trans (h1.trans h.code))
    subst hcc
    have hlen : len₂ = len := by rw [hdg] at hd₂; cases hd₂; rfl
    subst hlen
    have hs₂ : s₂ = (({ U with heap := s₂.heap, slotsUsed := s₂.slotsUsed } : State).setVm s₂.vm).setTop { g with pc := g.pc + len₂, stack := v.toList ++ g.stack } := by
      refine e3.trans ?_
      rw [hf₂, State.calling_eq h.top, State.setFrames_setFrames, State.setTop_of_frames _ hr', hr]
      rfl
    have hsame : U.sameButNew ({ U with heap := s₂.heap, slotsUsed := s₂.slotsUsed } : State) L mc ms := by
      refine ⟨?_, q2, q3, q4, q5, q6⟩
      obtain ⟨t, ht, -⟩ := State.frames_cons hr
      show ({ U with heap := s₂.heap, slotsUsed := s₂.slotsUsed } : State) = { U.setFrames U.frames with heap := s₂.heap, slotsUsed := s₂.slotsUsed }
      rw [State.setFrames_self ht]
    subst hg
    refine Or.inl ⟨v, ⟨(({ U with heap := s₂.heap, slotsUsed := s₂.slotsUsed } : State).setVm s₂.vm), Ls ++ L, c0 + mc, s0 + ms⟩,
      ⟨X.admits, X.cas, X.clock, X.frames, X.room, X.hears, X.method, X.code, (X.here.setHeapUsed s₂.heap s₂.slotsUsed).setVm hW'.alike, X.tail, State.WarmedH.trans X.warmed hW', X.limits, X.bytes, X.same.trans (hsame.setVm s.vm)⟩,
      ⟨g, mk, s₂, L, rfl, rfl, hqc, rfl, hL, rfl, rfl⟩, ?_⟩
    show Steps p.tables e below _ ((({ U with heap := s₂.heap, slotsUsed := s₂.slotsUsed } : State).setVm s₂.vm).setTop { g with pc := g.pc + len₂, stack := v.toList ++ g.stack })
    rw [← hs₂]
    exact hsteps
  · obtain ⟨e2, q2, q3, q4, q5, q6⟩ := id hsm
    have e3 : s₂ = ({ (U.calling g mk a).setFrames s₂.frames with heap := s₂.heap, slotsUsed := s₂.slotsUsed } : State).setVm s₂.vm := by
      have : s₂ = ({ s₂ with vm := (U.calling g mk a).vm } : State).setVm s₂.vm := rfl
      rw [e2] at this
      exact this
    have hf₂ : s₂.frames = .throwing q :: .java g :: U.frames.tail := hend
    have hW' : U.WarmedH s₂.vm := hW₂
    have hs₂ : s₂ = ((({ U with heap := s₂.heap, slotsUsed := s₂.slotsUsed } : State).setVm s₂.vm).setTop g).pushFrame (.throwing q) := by
      refine e3.trans ?_
      rw [hf₂, State.calling_eq h.top, State.setFrames_setFrames, State.pushFrame, State.frames_setTop _ hr', State.setTop_of_frames _ hr', State.setFrames_setFrames, hr]
      rfl
    have hsame : U.sameButNew ({ U with heap := s₂.heap, slotsUsed := s₂.slotsUsed } : State) L mc ms := by
      refine ⟨?_, q2, q3, q4, q5, q6⟩
      obtain ⟨t, ht, -⟩ := State.frames_cons hr
      show ({ U with heap := s₂.heap, slotsUsed := s₂.slotsUsed } : State) = { U.setFrames U.frames with heap := s₂.heap, slotsUsed := s₂.slotsUsed }
      rw [State.setFrames_self ht]
    subst hg
    refine Or.inr ⟨q, ⟨(({ U with heap := s₂.heap, slotsUsed := s₂.slotsUsed } : State).setVm s₂.vm), Ls ++ L, c0 + mc, s0 + ms⟩,
      ⟨X.admits, X.cas, X.clock, X.frames, X.room, X.hears, X.method, X.code, (X.here.setHeapUsed s₂.heap s₂.slotsUsed).setVm hW'.alike, X.tail, State.WarmedH.trans X.warmed hW', X.limits, X.bytes, X.same.trans (hsame.setVm s.vm)⟩,
      ⟨g, mk, s₂, L, E, ce, rfl, rfl, hx, hce, hcv, hcl, rfl, hL, rfl, rfl⟩, ?_⟩
    show Steps p.tables e below _ (((({ U with heap := s₂.heap, slotsUsed := s₂.slotsUsed } : State).setVm s₂.vm).setTop g).pushFrame (.throwing q))
    rw [← hs₂]
    exact hsteps
end Payer
section Calls
variable {p : Program} {l : Launch} {e : Env} {R : Room} {s : State} {m : MethodId} {args : Array Value} {below : List Frame} {meth : Method} {c : Code} {T : State} {locs : List Loc} {cells slots : Nat}
theorem vx_callV (X : Stand p l e R s m args below meth c T locs cells slots) (hexec : p.tables.exec = Jvm.exec) {own C : String} {index : Nat} {y : MethodName} {bytes : ByteArray} {maxL : Nat} {ret : Option FieldType}
    (hown : s.vm.findClass own = some m.cls) (hlink : (Cond.methodLink own index y).before args s = true) (hinst : (Cond.instanceMethod y).before args s = true) (hsel : (Cond.selects C y y).before args s = true)
    (hcode : (Cond.code y bytes maxL ret).before args s = true) (hy : y.cls ≠ "java/lang/invoke/MethodHandle" ∧ y.cls ≠ "java/lang/invoke/VarHandle")
    {W9 : Nat} {Pre : Pt → Array Value → Prop} {Post : Pt → Array Value → Option Value → Pt → Prop} {PostX : Pt → Array Value → Addr → Pt → Prop} (hK : vx_Back l R p e below s args y 3 W9 Pre Post PostX)
    {b : Addr} {cellB : Cell} (hcell : T.heap[b]? = some cellB) (hobj : cellB.vm.isStatics = false) (hcls : s.vm.findClass C = some cellB.cls)
    {g : JFrame} (hg : g.method = m) (hsize : g.locals.size = c.maxLocals) {argsL rest : List Value} (hlen : ∀ sig, parseMethodDescriptor y.desc = some sig → argsL.length = sig.parameters.length)
    (hstack : g.stack = argsL.reverse ++ .ref b :: rest) (hW : 2 * g.monitorRoom + (rest.map fun v => v.category).sum ≤ W9) (hdg : decode c.code g.pc = .ok (.invokevirtual index, 3))
    (hpre : ∀ vm₁, s.WarmedH vm₁ → Pre ⟨T.setVm vm₁, locs, cells, slots⟩ (Value.ref b :: argsL).toArray) :
    (∃ (v : Option Value) (vm₁ : Vm) (B : Pt), s.WarmedH vm₁ ∧ Stand p l e R s m args below meth c B.U B.locs B.cells B.slots ∧ Post ⟨T.setVm vm₁, locs, cells, slots⟩ (Value.ref b :: argsL).toArray v B ∧
      ∀ target, Steps p.tables e below (B.U.setTop { g with pc := g.pc + 3, stack := v.toList ++ rest }) target → Steps p.tables e below (T.setTop g) target) ∨
    (∃ (q : Addr) (vm₁ : Vm) (B : Pt), s.WarmedH vm₁ ∧ Stand p l e R s m args below meth c B.U B.locs B.cells B.slots ∧ PostX ⟨T.setVm vm₁, locs, cells, slots⟩ (Value.ref b :: argsL).toArray q B ∧
      Steps p.tables e below (T.setTop g) ((B.U.setTop { g with stack := rest }).pushFrame (.throwing q))) := by
  obtain ⟨mk, methM, hnamed, hmethM, hstM, habM⟩ := Cond.instanceMethod_spec hinst
  obtain ⟨methM', cM, hmethM', -, -, -, -, -, -, hsigM⟩ := Cond.code_spec hnamed hcode
  cases hmethM.symm.trans hmethM'
  obtain ⟨c2, r2, m2, q1, q2, q3, q4, kP, hkP, hkPi⟩ := Cond.selects_spec hsel
  cases hcls.symm.trans q1
  cases (State.methodFound?_of_named hnamed hy).symm.trans q2
  cases hnamed.symm.trans q3
  have hselP : selectMethod e.platform s.vm cellB.cls mk = .method mk := by rw [Launch.admits_selectMethod X.admits]; exact q4
  obtain ⟨vm₁, X₁, hstep₁⟩ := X.invokevirtual hexec hown hlink hnamed hmethM hstM hkP hkPi hy (a := b) (cell := cellB) hcell
    (fun z h => by rw [h] at hobj; cases hobj) hselP hmethM habM hkP hkPi (g := g) hg (argsL := argsL) (rest := rest) (hlen _ hsigM) hstack hdg
  rcases hK m meth c ⟨T.setVm vm₁, locs, cells, slots⟩ { g with stack := rest } (.invokevirtual index) mk (Value.ref b :: argsL).toArray X₁ hg hsize hdg hW (X₁.named hnamed) (hpre vm₁ X₁.warmed) with ⟨v, B, X', hpost, hsteps⟩ | ⟨q, B, X', hpost, hsteps⟩
  · exact Or.inl ⟨v, vm₁, B, X₁.warmed, X', hpost, fun target h => hstep₁ _ fun acts => by rw [doInvoke_state]; exact hsteps.trans h⟩
  · exact Or.inr ⟨q, vm₁, B, X₁.warmed, X', hpost, hstep₁ _ fun acts => by rw [doInvoke_state]; exact hsteps⟩
theorem vx_callS (X : Stand p l e R s m args below meth c T locs cells slots) (hexec : p.tables.exec = Jvm.exec) {own : String} {index : Nat} {y : MethodName} {bytes : ByteArray} {maxL : Nat} {ret : Option FieldType}
    (hown : s.vm.findClass own = some m.cls) (hlink : (Cond.methodLink own index y).before args s = true) (hstat : (Cond.static y).before args s = true) (hinit : (Cond.initialized y.cls).before args s = true)
    (hcode : (Cond.code y bytes maxL ret).before args s = true) (hy : y.cls ≠ "java/lang/invoke/MethodHandle" ∧ y.cls ≠ "java/lang/invoke/VarHandle")
    {W9 : Nat} {Pre : Pt → Array Value → Prop} {Post : Pt → Array Value → Option Value → Pt → Prop} {PostX : Pt → Array Value → Addr → Pt → Prop} (hK : vx_Back l R p e below s args y 3 W9 Pre Post PostX)
    {g : JFrame} (hg : g.method = m) (hsize : g.locals.size = c.maxLocals) {argsL rest : List Value} (hlen : ∀ sig, parseMethodDescriptor y.desc = some sig → argsL.length = sig.parameters.length)
    (hstack : g.stack = argsL.reverse ++ rest) (hW : 2 * g.monitorRoom + (rest.map fun v => v.category).sum ≤ W9) (hdg : decode c.code g.pc = .ok (.invokestatic index, 3))
    (hpre : ∀ vm₁, s.WarmedH vm₁ → Pre ⟨T.setVm vm₁, locs, cells, slots⟩ argsL.toArray) :
    (∃ (v : Option Value) (vm₁ : Vm) (B : Pt), s.WarmedH vm₁ ∧ Stand p l e R s m args below meth c B.U B.locs B.cells B.slots ∧ Post ⟨T.setVm vm₁, locs, cells, slots⟩ argsL.toArray v B ∧
      ∀ target, Steps p.tables e below (B.U.setTop { g with pc := g.pc + 3, stack := v.toList ++ rest }) target → Steps p.tables e below (T.setTop g) target) ∨
    (∃ (q : Addr) (vm₁ : Vm) (B : Pt), s.WarmedH vm₁ ∧ Stand p l e R s m args below meth c B.U B.locs B.cells B.slots ∧ PostX ⟨T.setVm vm₁, locs, cells, slots⟩ argsL.toArray q B ∧
      Steps p.tables e below (T.setTop g) ((B.U.setTop { g with stack := rest }).pushFrame (.throwing q))) := by
  obtain ⟨mk, hnamed⟩ := Cond.code_named hcode
  obtain ⟨methM, cM, hmethM, -, -, -, -, -, -, hsigM⟩ := Cond.code_spec hnamed hcode
  have hstatic : methM.isStatic = true := Cond.static_spec hnamed hmethM hstat
  obtain ⟨kP, hkP, -⟩ := className_of_methodNamed hnamed
  have hinitP : kP.init = .initialized := Cond.initialized_spec (findClass_of_methodNamed hnamed) hkP hinit
  obtain ⟨vm₁, X₁, hstep₁⟩ := X.invokestatic hexec hown hlink hnamed hmethM hstatic hkP hinitP hy (g := g) hg (argsL := argsL) (rest := rest) (hlen _ hsigM) hstack hdg
  rcases hK m meth c ⟨T.setVm vm₁, locs, cells, slots⟩ { g with stack := rest } (.invokestatic index) mk argsL.toArray X₁ hg hsize hdg hW (X₁.named hnamed) (hpre vm₁ X₁.warmed) with ⟨v, B, X', hpost, hsteps⟩ | ⟨q, B, X', hpost, hsteps⟩
  · exact Or.inl ⟨v, vm₁, B, X₁.warmed, X', hpost, fun target h => hstep₁ _ fun acts => by rw [doInvoke_state]; exact hsteps.trans h⟩
  · exact Or.inr ⟨q, vm₁, B, X₁.warmed, X', hpost, hstep₁ _ fun acts => by rw [doInvoke_state]; exact hsteps⟩
end Calls
theorem vx_cls {s : State} {T : State} {vm₁ : Vm} {E : String} {k : ClassId} (hW : s.WarmedH vm₁) (h : (T.setVm vm₁).vm.findClass E = some k) : s.vm.findClass E = some k := by
  have h1 : vm₁.findClass E = some k := h
  rw [hW.alike.findClass] at h1
  exact h1
/-- the method's frame g, with q thrown over it -/
def vx_W (p : Program) (l : Launch) (e : Env) (R : Room) (s : State) (m : MethodId) (args : Array Value) (below : List Frame) (meth : Method) (c : Code) (H : Heap) (locs : List Loc) (cells slots : Nat) (Q : State → Prop) (g : JFrame) (q : Addr) : Prop :=
  ∀ T : State, T.heap = H → Stand p l e R s m args below meth c T locs cells slots → ∃ t, Steps p.tables e below ((T.setTop g).pushFrame (.throwing q)) t ∧ Q t
def vx_Run (p : Program) (l : Launch) (e : Env) (R : Room) (s : State) (m : MethodId) (args : Array Value) (below : List Frame) (meth : Method) (c : Code) (H : Heap) (locs : List Loc) (cells slots mc ms : Nat) (g : JFrame) (rest : List Value) (Qa : State → Outcome → State → Prop) (XC : String → State → State → Prop) (free : Addr → Prop) : Prop :=
  ∀ T : State, T.heap = H → Stand p l e R s m args below meth c T locs cells slots →
    (∃ (v : Option Value) (st₀ t T' : State) (L : List Loc), st₀.heap = H ∧ Stand p l e R s m args below meth c T' (locs ++ L) (cells + mc) (slots + ms) ∧ (∀ q ∈ L, free q.base) ∧ T'.heap = t.heap ∧ T'.vm = t.vm ∧ Qa st₀ (.returned v) t ∧
      Goes p e below T g T' { g with pc := g.pc + 3, stack := v.toList ++ rest }) ∨
    (∃ (q : Addr) (st₀ t T' : State) (L : List Loc) (E : String) (ce : Cell), st₀.heap = H ∧ Stand p l e R s m args below meth c T' (locs ++ L) (cells + mc) (slots + ms) ∧ (∀ z ∈ L, free z.base) ∧ T'.heap = t.heap ∧ T'.vm = t.vm ∧ XC E st₀ t ∧ t.heap[q]? = some ce ∧ ce.vm = .none ∧ s.vm.findClass E = some ce.cls ∧
      Steps p.tables e below (T.setTop g) ((T'.setTop { g with stack := rest }).pushFrame (.throwing q)))
def vx_X {S : Type} (px : S → Prop) (B : String → S → State → Prop) (A : Nat → Prop) : String → State → State → Prop := fun E st t => ∃ u : S, px u ∧ B E u t ∧ va_F A st t
section Runs
variable {p : Program} {l : Launch} {e : Env} {R : Room} {s : State} {m : MethodId} {args : Array Value} {below : List Frame} {meth : Method} {c : Code} {H : Heap} {locs : List Loc} {cells slots : Nat}
variable {y : MethodName} {bytes cc : ByteArray} {maxL nL mc ms n index : Nat} {ret : Option FieldType} {ws : List Cond} {rm : Room} {Pc : Array Value → State → Prop} {Qc : Array Value → State → Outcome → State → Prop} {XC : String → State → State → Prop} {free : Addr → Prop} {Ts : List Cond} {own C : String} {b : Addr} {As rest : List Value} {g : JFrame}
theorem vx_callBack (cb : CallB R s args own index y bytes maxL ret ws rm mc ms n) (hM : vx_Met l y ws rm Pc Qc XC mc ms free) (hbl : FrameBlind Pc) : vx_Back l R p e below s args y 3 8 (PreOf R mc ms Pc) (PostOf Qc mc ms free) (vx_Post XC mc ms free) := by
  obtain ⟨hrc, hrs, hfr, hlo, hws, hcw, -, hini, -⟩ := cb
  exact vx_back (bytes := bytes) (maxL := maxL) (ret := ret) hM hbl hrc hrs hfr hlo hws hcw (fun a' U hW => word_at hW (Or.inl (by first | rfl | simp [Cond.onTables, Cond.keeps, Cond.steady])) hini)
theorem vx_runV (S : CallFix p m c cc nL s args Ts own) (hM : vx_Met l y ws rm Pc Qc XC mc ms free) (cw : CallW R s args own C index y bytes maxL ret ws rm mc ms n) (hp : PreV s H C b Pc As)
    (hg : g.method = m) (hn : As.length = n) (hsize : g.locals.size = nL) (hstack : g.stack = As.reverse ++ .ref b :: rest) (hW : 2 * g.monitorRoom + (rest.map fun v => v.category).sum ≤ 8) (hdg : decode cc g.pc = .ok (.invokevirtual index, 3)) (hf : cells + mc ≤ R.cells ∧ slots + ms ≤ R.slots) :
    vx_Run p l e R s m args below meth c H locs cells slots mc ms g rest (Qc (Value.ref b :: As).toArray) XC free := by
  have hK : vx_Back l R p e below s args y 3 8 (PreOf R mc ms Pc) (PostOf Qc mc ms free) (vx_Post XC mc ms free) := vx_callBack cw.1 hM hp.1
  obtain ⟨⟨-, -, -, -, -, -, hcode, -, hy, hlen, hl⟩, hin, hse⟩ := cw
  obtain ⟨hx, hb, hml, ho, -⟩ := S
  obtain ⟨-, ⟨cellB, hcB, hoB, hclB⟩, hPc⟩ := hp
  intro T hT X
  rcases vx_callV X hx (C := C) (bytes := bytes) (maxL := maxL) (ret := ret) ho hl hin hse hcode hy hK (by rw [hT]; exact hcB) hoB hclB hg (hsize.trans hml.symm) (argsL := As) (rest := rest) (fun sig h => hn.trans (hlen sig h)) hstack hW (by rw [hb]; exact hdg)
    (fun vm₁ hW₁ => ⟨hf.1, hf.2, hPc (T.setVm vm₁) hT hW₁⟩) with ⟨v, vm₁, ⟨U', l2, c2, s2⟩, hW₁, X', ⟨g', mk, t, L, e1, e2, hq, h1, hL, h2, h3⟩, st⟩ | ⟨q, vm₁, ⟨U', l2, c2, s2⟩, hW₁, X', ⟨g', mk, t, L, E, ce, e1, e2, hq, hce, hcv, hcl, h1, hL, h2, h3⟩, st⟩
  · dsimp only [Pt.U, Pt.locs, Pt.cells, Pt.slots] at X' e1 e2 h1 h2 h3 st
    subst h1; subst h2; subst h3
    exact Or.inl ⟨v, (T.setVm vm₁).calling g' mk (Value.ref b :: As).toArray, t, U', L, hT, X', hL, e1, e2, hq, st⟩
  · dsimp only [Pt.U, Pt.locs, Pt.cells, Pt.slots] at X' e1 e2 h1 h2 h3 st hcl
    subst h1; subst h2; subst h3
    exact Or.inr ⟨q, (T.setVm vm₁).calling g' mk (Value.ref b :: As).toArray, t, U', L, E, ce, hT, X', hL, e1, e2, hq, hce, hcv, vx_cls hW₁ hcl, st⟩
theorem vx_runS (S : CallFix p m c cc nL s args Ts own) (hM : vx_Met l y ws rm Pc Qc XC mc ms free) (cw : CallB R s args own index y bytes maxL ret ws rm mc ms n ∧ (Cond.static y).before args s = true) (hp : PreS s H Pc As)
    (hg : g.method = m) (hn : As.length = n) (hsize : g.locals.size = nL) (hstack : g.stack = As.reverse ++ rest) (hW : 2 * g.monitorRoom + (rest.map fun v => v.category).sum ≤ 8) (hdg : decode cc g.pc = .ok (.invokestatic index, 3)) (hf : cells + mc ≤ R.cells ∧ slots + ms ≤ R.slots) :
    vx_Run p l e R s m args below meth c H locs cells slots mc ms g rest (Qc As.toArray) XC free := by
  have hK : vx_Back l R p e below s args y 3 8 (PreOf R mc ms Pc) (PostOf Qc mc ms free) (vx_Post XC mc ms free) := vx_callBack cw.1 hM hp.1
  obtain ⟨⟨-, -, -, -, -, -, hcode, hini, hy, hlen, hl⟩, hstt⟩ := cw
  obtain ⟨hx, hb, hml, ho, -⟩ := S
  intro T hT X
  rcases vx_callS X hx (bytes := bytes) (maxL := maxL) (ret := ret) ho hl hstt hini hcode hy hK hg (hsize.trans hml.symm) (argsL := As) (rest := rest) (fun sig h => hn.trans (hlen sig h)) hstack hW (by rw [hb]; exact hdg)
    (fun vm₁ hW₁ => ⟨hf.1, hf.2, hp.2 (T.setVm vm₁) hT hW₁⟩) with ⟨v, vm₁, ⟨U', l2, c2, s2⟩, hW₁, X', ⟨g', mk, t, L, e1, e2, hq, h1, hL, h2, h3⟩, st⟩ | ⟨q, vm₁, ⟨U', l2, c2, s2⟩, hW₁, X', ⟨g', mk, t, L, E, ce, e1, e2, hq, hce, hcv, hcl, h1, hL, h2, h3⟩, st⟩
  · dsimp only [Pt.U, Pt.locs, Pt.cells, Pt.slots] at X' e1 e2 h1 h2 h3 st
    subst h1; subst h2; subst h3
    exact Or.inl ⟨v, (T.setVm vm₁).calling g' mk As.toArray, t, U', L, hT, X', hL, e1, e2, hq, st⟩
  · dsimp only [Pt.U, Pt.locs, Pt.cells, Pt.slots] at X' e1 e2 h1 h2 h3 st hcl
    subst h1; subst h2; subst h3
    exact Or.inr ⟨q, (T.setVm vm₁).calling g' mk As.toArray, t, U', L, E, ce, hT, X', hL, e1, e2, hq, hce, hcv, vx_cls hW₁ hcl, st⟩
end Runs
section Rows
variable {p : Program} {l : Launch} {e : Env} {R : Room} {s : State} {m : MethodId} {args : Array Value} {below : List Frame} {meth : Method} {c : Code} {H : Heap} {locs : List Loc} {cells slots : Nat} {Q : State → Prop}
variable {mc ms : Nat} {free : Addr → Prop} {A0 A1 : Nat → Prop} {H0 : Heap} {a : Array Value} {pc : Nat} {ls : Array Slot} {st0 rest : List Value}
theorem vx_keep {st₀ t T' : State} {L : List Loc} (h0 : st₀.heap = H) (e1 : T'.heap = t.heap) (hS : va_S A0 H0 H locs) (hA : ∀ q, q < H.size → A1 q → A0 q) (hf : ∀ q, free q → A0 q) (hL : ∀ q ∈ L, free q.base) (hF : va_F A1 st₀ t) :
    H.size ≤ T'.heap.size ∧ (∀ q : Nat, q < H.size → ¬ A1 q → T'.heap[q]? = H[q]?) ∧ va_S A0 H0 T'.heap (locs ++ L) := by
  obtain ⟨hz, hk⟩ := hF
  rw [h0] at hz hk
  exact ⟨by rw [e1]; exact hz, fun q h1 h2 => by rw [e1]; exact hk q h1 h2,
    ⟨Nat.le_trans hS.1 (by rw [e1]; exact hz), fun q h1 h2 => by rw [e1, hk q (Nat.lt_of_lt_of_le h1 hS.1) (fun z => h2 (hA q (Nat.lt_of_lt_of_le h1 hS.1) z))]; exact hS.2.1 q h1 h2, fun q hq => by
      rcases List.mem_append.mp hq with h | h
      · exact hS.2.2 q h
      · exact hf _ (hL q h)⟩⟩
theorem vx_calli {S SX : Type} {post : Int32 → S → Prop} {px : SX → Prop} {B : S → State → Prop} {BX : String → SX → State → Prop} {AX : Nat → Prop} (hr : vx_Run p l e R s m args below meth c H locs cells slots mc ms (F0 m pc ls st0) rest (va_Qi post B A1 a) (vx_X px BX AX) free) (hS : va_S A0 H0 H locs) (hA : ∀ q, q < H.size → A1 q → A0 q) (hf : ∀ q, free q → A0 q) (hAX : ∀ q, q < H.size → AX q → A0 q)
    (kx : ∀ (E : String) (ce : Cell) (q9 : Addr) (u : SX) (t : State) (H1 : Heap) (locs1 : List Loc), t.heap = H1 → s.vm.Alike t.vm → px u → BX E u t → H.size ≤ H1.size → (∀ q : Nat, q < H.size → ¬ AX q → H1[q]? = H[q]?) → va_S A0 H0 H1 locs1 → H1[q9]? = some ce → ce.vm = .none → s.vm.findClass E = some ce.cls → vx_W p l e R s m args below meth c H1 locs1 (cells + mc) (slots + ms) Q (F0 m pc ls rest) q9)
    (kk : ∀ (r : Int32) (u : S) (t : State) (H1 : Heap) (locs1 : List Loc), t.heap = H1 → s.vm.Alike t.vm → post r u → B u t → H.size ≤ H1.size → (∀ q : Nat, q < H.size → ¬ A1 q → H1[q]? = H[q]?) → va_S A0 H0 H1 locs1 → W p l e R s m args below meth c H1 locs1 (cells + mc) (slots + ms) Q (F0 m (pc + 3) ls (.int r :: rest))) : W p l e R s m args below meth c H locs cells slots Q (F0 m pc ls st0) := by
  intro T hT X
  rcases hr T hT X with ⟨v, st₀, t, T', L, h0, X', hL, e1, e2, ⟨⟨r, u, hv, hp, hb⟩, hF⟩, st⟩ | ⟨q, st₀, t, T', L, E, ce, h0, X', hL, e1, e2, ⟨u, hp, hb, hF⟩, hce, hcv, hcl, st⟩
  · cases hv
    obtain ⟨k1, k2, k3⟩ := vx_keep h0 e1 hS hA hf hL hF
    obtain ⟨t2, a1, b1⟩ := kk r u t T'.heap (locs ++ L) e1.symm (by rw [← e2]; exact X'.warmed.alike) hp hb k1 k2 k3 T' rfl X'
    exact ⟨t2, st t2 a1, b1⟩
  · obtain ⟨k1, k2, k3⟩ := vx_keep h0 e1 hS hAX hf hL hF
    obtain ⟨t2, a1, b1⟩ := kx E ce q u t T'.heap (locs ++ L) e1.symm (by rw [← e2]; exact X'.warmed.alike) hp hb k1 k2 k3 (by rw [e1]; exact hce) hcv hcl T' rfl X'
    exact ⟨t2, st.trans a1, b1⟩
theorem vx_calll {S SX : Type} {post : Int64 → S → Prop} {px : SX → Prop} {B : S → State → Prop} {BX : String → SX → State → Prop} {AX : Nat → Prop} (hr : vx_Run p l e R s m args below meth c H locs cells slots mc ms (F0 m pc ls st0) rest (va_Ql post B A1 a) (vx_X px BX AX) free) (hS : va_S A0 H0 H locs) (hA : ∀ q, q < H.size → A1 q → A0 q) (hf : ∀ q, free q → A0 q) (hAX : ∀ q, q < H.size → AX q → A0 q)
    (kx : ∀ (E : String) (ce : Cell) (q9 : Addr) (u : SX) (t : State) (H1 : Heap) (locs1 : List Loc), t.heap = H1 → s.vm.Alike t.vm → px u → BX E u t → H.size ≤ H1.size → (∀ q : Nat, q < H.size → ¬ AX q → H1[q]? = H[q]?) → va_S A0 H0 H1 locs1 → H1[q9]? = some ce → ce.vm = .none → s.vm.findClass E = some ce.cls → vx_W p l e R s m args below meth c H1 locs1 (cells + mc) (slots + ms) Q (F0 m pc ls rest) q9)
    (kk : ∀ (r : Int64) (u : S) (t : State) (H1 : Heap) (locs1 : List Loc), t.heap = H1 → s.vm.Alike t.vm → post r u → B u t → H.size ≤ H1.size → (∀ q : Nat, q < H.size → ¬ A1 q → H1[q]? = H[q]?) → va_S A0 H0 H1 locs1 → W p l e R s m args below meth c H1 locs1 (cells + mc) (slots + ms) Q (F0 m (pc + 3) ls (.long r :: rest))) : W p l e R s m args below meth c H locs cells slots Q (F0 m pc ls st0) := by
  intro T hT X
  rcases hr T hT X with ⟨v, st₀, t, T', L, h0, X', hL, e1, e2, ⟨⟨r, u, hv, hp, hb⟩, hF⟩, st⟩ | ⟨q, st₀, t, T', L, E, ce, h0, X', hL, e1, e2, ⟨u, hp, hb, hF⟩, hce, hcv, hcl, st⟩
  · cases hv
    obtain ⟨k1, k2, k3⟩ := vx_keep h0 e1 hS hA hf hL hF
    obtain ⟨t2, a1, b1⟩ := kk r u t T'.heap (locs ++ L) e1.symm (by rw [← e2]; exact X'.warmed.alike) hp hb k1 k2 k3 T' rfl X'
    exact ⟨t2, st t2 a1, b1⟩
  · obtain ⟨k1, k2, k3⟩ := vx_keep h0 e1 hS hAX hf hL hF
    obtain ⟨t2, a1, b1⟩ := kx E ce q u t T'.heap (locs ++ L) e1.symm (by rw [← e2]; exact X'.warmed.alike) hp hb k1 k2 k3 (by rw [e1]; exact hce) hcv hcl T' rfl X'
    exact ⟨t2, st.trans a1, b1⟩
theorem vx_callf {S SX : Type} {post : UInt32 → S → Prop} {px : SX → Prop} {B : S → State → Prop} {BX : String → SX → State → Prop} {AX : Nat → Prop} (hr : vx_Run p l e R s m args below meth c H locs cells slots mc ms (F0 m pc ls st0) rest (va_Qf post B A1 a) (vx_X px BX AX) free) (hS : va_S A0 H0 H locs) (hA : ∀ q, q < H.size → A1 q → A0 q) (hf : ∀ q, free q → A0 q) (hAX : ∀ q, q < H.size → AX q → A0 q)
    (kx : ∀ (E : String) (ce : Cell) (q9 : Addr) (u : SX) (t : State) (H1 : Heap) (locs1 : List Loc), t.heap = H1 → s.vm.Alike t.vm → px u → BX E u t → H.size ≤ H1.size → (∀ q : Nat, q < H.size → ¬ AX q → H1[q]? = H[q]?) → va_S A0 H0 H1 locs1 → H1[q9]? = some ce → ce.vm = .none → s.vm.findClass E = some ce.cls → vx_W p l e R s m args below meth c H1 locs1 (cells + mc) (slots + ms) Q (F0 m pc ls rest) q9)
    (kk : ∀ (r : UInt32) (u : S) (t : State) (H1 : Heap) (locs1 : List Loc), t.heap = H1 → s.vm.Alike t.vm → post r u → B u t → H.size ≤ H1.size → (∀ q : Nat, q < H.size → ¬ A1 q → H1[q]? = H[q]?) → va_S A0 H0 H1 locs1 → W p l e R s m args below meth c H1 locs1 (cells + mc) (slots + ms) Q (F0 m (pc + 3) ls (.float r :: rest))) : W p l e R s m args below meth c H locs cells slots Q (F0 m pc ls st0) := by
  intro T hT X
  rcases hr T hT X with ⟨v, st₀, t, T', L, h0, X', hL, e1, e2, ⟨⟨r, u, hv, hp, hb⟩, hF⟩, st⟩ | ⟨q, st₀, t, T', L, E, ce, h0, X', hL, e1, e2, ⟨u, hp, hb, hF⟩, hce, hcv, hcl, st⟩
  · cases hv
    obtain ⟨k1, k2, k3⟩ := vx_keep h0 e1 hS hA hf hL hF
    obtain ⟨t2, a1, b1⟩ := kk r u t T'.heap (locs ++ L) e1.symm (by rw [← e2]; exact X'.warmed.alike) hp hb k1 k2 k3 T' rfl X'
    exact ⟨t2, st t2 a1, b1⟩
  · obtain ⟨k1, k2, k3⟩ := vx_keep h0 e1 hS hAX hf hL hF
    obtain ⟨t2, a1, b1⟩ := kx E ce q u t T'.heap (locs ++ L) e1.symm (by rw [← e2]; exact X'.warmed.alike) hp hb k1 k2 k3 (by rw [e1]; exact hce) hcv hcl T' rfl X'
    exact ⟨t2, st.trans a1, b1⟩
theorem vx_calld {S SX : Type} {post : UInt64 → S → Prop} {px : SX → Prop} {B : S → State → Prop} {BX : String → SX → State → Prop} {AX : Nat → Prop} (hr : vx_Run p l e R s m args below meth c H locs cells slots mc ms (F0 m pc ls st0) rest (va_Qd post B A1 a) (vx_X px BX AX) free) (hS : va_S A0 H0 H locs) (hA : ∀ q, q < H.size → A1 q → A0 q) (hf : ∀ q, free q → A0 q) (hAX : ∀ q, q < H.size → AX q → A0 q)
    (kx : ∀ (E : String) (ce : Cell) (q9 : Addr) (u : SX) (t : State) (H1 : Heap) (locs1 : List Loc), t.heap = H1 → s.vm.Alike t.vm → px u → BX E u t → H.size ≤ H1.size → (∀ q : Nat, q < H.size → ¬ AX q → H1[q]? = H[q]?) → va_S A0 H0 H1 locs1 → H1[q9]? = some ce → ce.vm = .none → s.vm.findClass E = some ce.cls → vx_W p l e R s m args below meth c H1 locs1 (cells + mc) (slots + ms) Q (F0 m pc ls rest) q9)
    (kk : ∀ (r : UInt64) (u : S) (t : State) (H1 : Heap) (locs1 : List Loc), t.heap = H1 → s.vm.Alike t.vm → post r u → B u t → H.size ≤ H1.size → (∀ q : Nat, q < H.size → ¬ A1 q → H1[q]? = H[q]?) → va_S A0 H0 H1 locs1 → W p l e R s m args below meth c H1 locs1 (cells + mc) (slots + ms) Q (F0 m (pc + 3) ls (.double r :: rest))) : W p l e R s m args below meth c H locs cells slots Q (F0 m pc ls st0) := by
  intro T hT X
  rcases hr T hT X with ⟨v, st₀, t, T', L, h0, X', hL, e1, e2, ⟨⟨r, u, hv, hp, hb⟩, hF⟩, st⟩ | ⟨q, st₀, t, T', L, E, ce, h0, X', hL, e1, e2, ⟨u, hp, hb, hF⟩, hce, hcv, hcl, st⟩
  · cases hv
    obtain ⟨k1, k2, k3⟩ := vx_keep h0 e1 hS hA hf hL hF
    obtain ⟨t2, a1, b1⟩ := kk r u t T'.heap (locs ++ L) e1.symm (by rw [← e2]; exact X'.warmed.alike) hp hb k1 k2 k3 T' rfl X'
    exact ⟨t2, st t2 a1, b1⟩
  · obtain ⟨k1, k2, k3⟩ := vx_keep h0 e1 hS hAX hf hL hF
    obtain ⟨t2, a1, b1⟩ := kx E ce q u t T'.heap (locs ++ L) e1.symm (by rw [← e2]; exact X'.warmed.alike) hp hb k1 k2 k3 (by rw [e1]; exact hce) hcv hcl T' rfl X'
    exact ⟨t2, st.trans a1, b1⟩
theorem vx_callv {S SX : Type} {post : S → Prop} {px : SX → Prop} {B : S → State → Prop} {BX : String → SX → State → Prop} {AX : Nat → Prop} (hr : vx_Run p l e R s m args below meth c H locs cells slots mc ms (F0 m pc ls st0) rest (va_Qv post B A1 a) (vx_X px BX AX) free) (hS : va_S A0 H0 H locs) (hA : ∀ q, q < H.size → A1 q → A0 q) (hf : ∀ q, free q → A0 q) (hAX : ∀ q, q < H.size → AX q → A0 q)
    (kx : ∀ (E : String) (ce : Cell) (q9 : Addr) (u : SX) (t : State) (H1 : Heap) (locs1 : List Loc), t.heap = H1 → s.vm.Alike t.vm → px u → BX E u t → H.size ≤ H1.size → (∀ q : Nat, q < H.size → ¬ AX q → H1[q]? = H[q]?) → va_S A0 H0 H1 locs1 → H1[q9]? = some ce → ce.vm = .none → s.vm.findClass E = some ce.cls → vx_W p l e R s m args below meth c H1 locs1 (cells + mc) (slots + ms) Q (F0 m pc ls rest) q9)
    (kk : ∀ (u : S) (t : State) (H1 : Heap) (locs1 : List Loc), t.heap = H1 → s.vm.Alike t.vm → post u → B u t → H.size ≤ H1.size → (∀ q : Nat, q < H.size → ¬ A1 q → H1[q]? = H[q]?) → va_S A0 H0 H1 locs1 → W p l e R s m args below meth c H1 locs1 (cells + mc) (slots + ms) Q (F0 m (pc + 3) ls (rest))) : W p l e R s m args below meth c H locs cells slots Q (F0 m pc ls st0) := by
  intro T hT X
  rcases hr T hT X with ⟨v, st₀, t, T', L, h0, X', hL, e1, e2, ⟨⟨u, hv, hp, hb⟩, hF⟩, st⟩ | ⟨q, st₀, t, T', L, E, ce, h0, X', hL, e1, e2, ⟨u, hp, hb, hF⟩, hce, hcv, hcl, st⟩
  · cases hv
    obtain ⟨k1, k2, k3⟩ := vx_keep h0 e1 hS hA hf hL hF
    obtain ⟨t2, a1, b1⟩ := kk u t T'.heap (locs ++ L) e1.symm (by rw [← e2]; exact X'.warmed.alike) hp hb k1 k2 k3 T' rfl X'
    exact ⟨t2, st t2 a1, b1⟩
  · obtain ⟨k1, k2, k3⟩ := vx_keep h0 e1 hS hAX hf hL hF
    obtain ⟨t2, a1, b1⟩ := kx E ce q u t T'.heap (locs ++ L) e1.symm (by rw [← e2]; exact X'.warmed.alike) hp hb k1 k2 k3 (by rw [e1]; exact hce) hcv hcl T' rfl X'
    exact ⟨t2, st.trans a1, b1⟩
/-- caught by the row x of this method's table; the rows ahead don't take it -/
theorem vx_catch {own name : String} {E : String} {ce : Cell} {q : Addr} (hown : s.vm.findClass own = some m.cls) (pre : List ExceptionTableEntry) (x : ExceptionTableEntry) (suf : List ExceptionTableEntry) (hsplit : c.exceptionTable.toList = pre ++ x :: suf)
    (hpass : ∀ z ∈ pre, covers z pc = false ∨ (z.catchType ≠ 0 ∧ ∃ nm : String, (Cond.classLink own z.catchType nm).before args s = true ∧ va_Nc E nm s)) (hx : covers x pc = true) (h0 : x.catchType ≠ 0)
    (hlink : (Cond.classLink own x.catchType name).before args s = true) (hcast : (Cond.castable E name).before args s = true) (hcell : H[q]? = some ce) (hv : ce.vm = .none) (hcl : s.vm.findClass E = some ce.cls)
    (kk : W p l e R s m args below meth c H locs cells slots Q (F0 m x.handlerPc ls [.ref q])) : vx_W p l e R s m args below meth c H locs cells slots Q (F0 m pc ls rest) q := by
  intro T hT X
  have hpl : e.platform.magicAccessors = ({} : Platform).magicAccessors := by rw [X.admits.platform]
  obtain ⟨c3, c4, hc3, hc4, hasg⟩ := Cond.castable_spec hcast
  cases Option.some.inj (hc3.symm.trans hcl)
  obtain ⟨c5, hc5, hcl5⟩ := Cond.classLink_spec hown hlink e.platform hpl
  cases Option.some.inj (hc4.symm.trans hc5)
  obtain ⟨vm', X', st⟩ := X.thenCaughtThrough q (g := F0 m pc ls rest) rfl (Steps.refl _) (by rw [hT]; exact hcell) (by rw [hv]; rfl) (by obtain ⟨k9, h9, -⟩ := Vm.findClass_spec hcl; exact ⟨k9, h9⟩) pre x suf hsplit
    (fun z hz => by
      rcases hpass z hz with h | ⟨hz0, nm, hl1, hn1⟩
      · exact Or.inl h
      · obtain ⟨c6, hc6, hcl6⟩ := Cond.classLink_spec hown hl1 e.platform hpl
        obtain ⟨a8, b8, h1, h2, h3⟩ := hn1
        cases Option.some.inj (h1.symm.trans hcl)
        cases Option.some.inj (h2.symm.trans hc6)
        exact Or.inr ⟨hz0, _, hcl6, h3⟩) hx (Or.inr ⟨h0, c4, hcl5, hasg⟩)
  obtain ⟨t, a1, b1⟩ := kk (T.setVm vm') hT X'
  exact ⟨t, st.trans a1, b1⟩
end Rows
section Ends
variable {p : Program} {l : Launch} {e : Env} {R : Room} {s : State} {m : MethodId} {args : Array Value} {below : List Frame} {meth : Method} {c : Code} {H : Heap} {locs : List Loc} {cells slots : Nat} {Q : State → Prop}
variable {mc ms : Nat} {free : Addr → Prop} {A0 A1 : Nat → Prop} {H0 : Heap} {a : Array Value} {ls : Array Slot} {st0 rest : List Value}
variable {Qc : Array Value → State → Outcome → State → Prop} {XC : String → State → State → Prop}
/-- what a body that may throw owes at its end -/
def vx_MQ (below : List Frame) (Qc : Array Value → State → Outcome → State → Prop) (XC : String → State → State → Prop) (a : Array Value) (s : State) (mc ms : Nat) (free : Addr → Prop) : State → Prop := fun t =>
  ∃ o, t.status = .running ∧ Ended t below o ∧ vx_Q Qc XC mc ms free a s o t
theorem vx_ret {g : JFrame} {mc ms : Nat} (k : W p l e R s m args below meth c H locs cells slots (MQ below Qc args s mc ms free) g) : W p l e R s m args below meth c H locs cells slots (vx_MQ below Qc XC args s mc ms free) g := by
  intro T hT X
  obtain ⟨t, a1, o, b1, b2, b3, b4⟩ := k T hT X
  exact ⟨t, a1, o, b1, b2, Or.inl ⟨b3, b4⟩⟩
/-- not caught here: it goes on to the caller -/
theorem vx_widen {g : JFrame} {q : Addr} {k n : Nat} (h1 : cells ≤ k) (h2 : slots ≤ n) (kk : vx_W p l e R s m args below meth c H locs k n Q g q) : vx_W p l e R s m args below meth c H locs cells slots Q g q := fun T hT X => kk T hT (stand_widen X h1 h2)
theorem vx_out {pc : Nat} {E : String} {ce : Cell} {q : Addr} {mc ms : Nat} (hout : ∀ x ∈ c.exceptionTable.toList, covers x pc = false) (hlocks : meth.locks = false) (hcell : H[q]? = some ce) (hv : ce.vm = .none) (hcl : s.vm.findClass E = some ce.cls)
    (hx : ∀ t : State, t.heap = H → s.vm.Alike t.vm → XC E s t) (hf : ∀ z ∈ locs, free z.base) (hc : cells ≤ mc) (hs : slots ≤ ms) :
    vx_W p l e R s m args below meth c H locs cells slots (vx_MQ below Qc XC args s mc ms free) (F0 m pc ls rest) q := by
  intro T hT X
  obtain ⟨st1, hrun, hend, hW, hsm⟩ := X.leaveThrown q (g := F0 m pc ls rest) rfl rfl rfl hout hlocks
  have hcell9 : (T.setFrames (.throwing q :: below)).heap[q]? = some ce := by
    show T.heap[q]? = some ce
    rw [hT]; exact hcell
  exact ⟨_, st1, .threw q, hrun, hend, Or.inr ⟨q, rfl, E, ce, locs, hx _ hT hW.alike, hcell9, hv, hcl, hW, hsm.mono hc hs, hf⟩⟩
theorem vx_frame {U : State} {k n : Nat} (h : s.sameButNew ({ U with vm := s.vm } : State) locs k n) : s.heap.size ≤ U.heap.size ∧ ∀ q : Nat, q < s.heap.size → (∀ z ∈ locs, z.base ≠ q) → U.heap[q]? = s.heap[q]? := by
  obtain ⟨-, h2, -, -, -, h6⟩ := h
  refine ⟨h2, fun q hq hz => ?_⟩
  obtain ⟨c9, e1, e2, e3, e4⟩ := h6 q _ (Array.getElem?_eq_getElem hq)
  have hs : c9.slots = (s.heap[q]).slots := Array.ext_getElem? fun i => e4 i fun hm => hz _ hm rfl
  have h9 : c9 = s.heap[q] := by
    rw [hs] at e2
    exact e2
  have e5 : U.heap[q]? = some c9 := e1
  rw [e5, h9, Array.getElem?_eq_getElem hq]
/-- the words of a throw but the four that speak of the heap -/
def vx_no (w : Cond) : Bool := decide (w ≠ .isRef (.static Bundle.tN "UNASSIGNED_STACK" Bundle.steD)) && decide (w ≠ .isRef (.static Bundle.tN "SUPPRESSED_SENTINEL" Bundle.listD)) && decide (w ≠ .laysStatic Bundle.tN "UNASSIGNED_STACK" Bundle.steD) && decide (w ≠ .laysStatic Bundle.tN "SUPPRESSED_SENTINEL" Bundle.listD)
def vx_at0 (own : String) (ic : Nat) (X : String) (names : List String) : List Cond := (Bundle.ownAtoms0 own ic X names).filter vx_no
def vx_atS (own : String) (ic : Nat) (X : String) (names : List String) : List Cond := (Bundle.ownAtoms own ic X names).filter vx_no
/-- a word that the tables alone decide, or a good one -/
def vx_ot (w : Cond) : Bool := w.onTables || goodWord w
theorem vx_ot_at {args a' : Array Value} {s U : State} {w : Cond} (hW : s.WarmedH U.vm) (hvm : s.vm = U.vm) (hg : vx_ot w = true) (h : w.before args s = true) : w.before a' U = true := by
  simp only [vx_ot, Bool.or_eq_true] at hg
  rcases hg with hg | hg
  · exact va_tabs hg hvm h
  · exact word_at hW (good_of_word hg) h
/-- a list's words: the good ones out of the method's own list, the others by premises of their own -/
theorem vx_hat {args : Array Value} {s : State} {L B : List Cond} (h1 : ∀ w ∈ L.filter goodWord, w.before args s = true) (h2 : ∀ w ∈ L.filter (fun w => !goodWord w), w ∈ B) (h3 : ∀ w ∈ B, w.before args s = true) : ∀ w ∈ L, w.before args s = true := by
  intro w hw
  by_cases g : goodWord w = true
  · exact h1 w (List.mem_filter.mpr ⟨hw, g⟩)
  · refine h3 w (h2 w (List.mem_filter.mpr ⟨hw, ?_⟩))
    show (!goodWord w) = true
    cases hgw : goodWord w
    · rfl
    · exact absurd hgw g
theorem vx_c {args : Array Value} {s : State} {w : Cond} {B : List Cond} (h : w.before args s = true) (t : ∀ w ∈ B, w.before args s = true) : ∀ w' ∈ w :: B, w'.before args s = true := fun w' h' => (List.mem_cons.mp h').elim (fun e => by rw [e]; exact h) (t w')
theorem vx_n {args : Array Value} {s : State} : ∀ w ∈ ([] : List Cond), w.before args s = true := fun _ h => nomatch h
theorem vx_own {args : Array Value} {s : State} {L : List Cond} (h1 : ∀ w ∈ L.filter vx_no, w.before args s = true)
    (hU : (Cond.isRef (.static Bundle.tN "UNASSIGNED_STACK" Bundle.steD)).before args s = true) (hN : (Cond.isRef (.static Bundle.tN "SUPPRESSED_SENTINEL" Bundle.listD)).before args s = true)
    (lU : (Cond.laysStatic Bundle.tN "UNASSIGNED_STACK" Bundle.steD).before args s = true) (lN : (Cond.laysStatic Bundle.tN "SUPPRESSED_SENTINEL" Bundle.listD).before args s = true) : ∀ w ∈ L, w.before args s = true := by
  intro w hw
  by_cases e1 : w = .isRef (.static Bundle.tN "UNASSIGNED_STACK" Bundle.steD)
  · rw [e1]; exact hU
  · by_cases e2 : w = .isRef (.static Bundle.tN "SUPPRESSED_SENTINEL" Bundle.listD)
    · rw [e2]; exact hN
    · by_cases e3 : w = .laysStatic Bundle.tN "UNASSIGNED_STACK" Bundle.steD
      · rw [e3]; exact lU
      · by_cases e4 : w = .laysStatic Bundle.tN "SUPPRESSED_SENTINEL" Bundle.listD
        · rw [e4]; exact lN
        · exact h1 w (List.mem_filter.mpr ⟨hw, by unfold vx_no; rw [decide_eq_true e1, decide_eq_true e2, decide_eq_true e3, decide_eq_true e4]; rfl⟩)
/-- where a static field lies, its class's statics cell in H -/
def vx_L (C n d : String) (A : Nat → Prop) (U : State) (H : Heap) : Prop := ∃ (c : ClassId) (k : Class) (i : Nat) (f : Field) (a : Nat) (cell : Cell), U.vm.findClass C = some c ∧ U.fieldFound? C n d = some (c, k, i, f) ∧ f.isStatic = true ∧ k.statics = some a ∧ H[a]? = some cell ∧ cell.vm.isStatics = true ∧ cell.cls = c ∧ f.slot < cell.slots.size ∧ k.staticTypes[f.slot]? = some f.type ∧ ¬ A a
theorem vx_L.moved {C n d : String} {A : Nat → Prop} {u U : State} {H : Heap} (hvm : u.vm.Alike U.vm) (h : vx_L C n d A u H) : vx_L C n d A U H := by
  obtain ⟨c, k, i, f, a, cell, h1, h2, h3, h4, h5, h6, h7, h8, h9, h10⟩ := h
  obtain ⟨k', hi', he⟩ := State.fieldFound?_setVm hvm h2
  exact ⟨c, k', i, f, a, cell, by rw [hvm.findClass]; exact h1, hi', h3, by rw [he]; exact h4, h5, h6, h7, h8, by rw [he]; exact h9, h10⟩
theorem vx_L.kept {C n d : String} {A : Nat → Prop} {U : State} {H H1 : Heap} (h : vx_L C n d A U H) (hq : ∀ a : Nat, a < H.size → ¬ A a → H1[a]? = H[a]?) : vx_L C n d A U H1 := by
  obtain ⟨c, k, i, f, a, cell, h1, h2, h3, h4, h5, h6, h7, h8, h9, h10⟩ := h
  exact ⟨c, k, i, f, a, cell, h1, h2, h3, h4, by rw [hq a (Array.getElem?_eq_some_iff.mp h5).1 h10]; exact h5, h6, h7, h8, h9, h10⟩
theorem vx_L.narrow {C n d : String} {A B : Nat → Prop} {U : State} {H : Heap} (h : vx_L C n d A U H) (hAB : ∀ q, B q → A q) : vx_L C n d B U H := by
  obtain ⟨c, k, i, f, a, cell, h1, h2, h3, h4, h5, h6, h7, h8, h9, h10⟩ := h
  exact ⟨c, k, i, f, a, cell, h1, h2, h3, h4, h5, h6, h7, h8, h9, fun z => h10 (hAB _ z)⟩
theorem vx_L.word {C n d : String} {A : Nat → Prop} {s : State} {args : Array Value} (h : vx_L C n d A s s.heap) : (Cond.laysStatic C n d).before args s = true := by
  obtain ⟨c, k, i, f, a, cell, h1, h2, h3, h4, h5, h6, h7, h8, h9, -⟩ := h
  show (Cond.laysStatic C n d).holds args s none s [] = true
  exact Cond.laysStatic_of h1 h2 h3 h4 h5 h6 h7 h8 h9
/-- .. and what it holds: null or some reference -/
def vx_Zq (C n d : String) (A : Nat → Prop) (U : State) (H : Heap) : Prop := va_Zq C n d A U H ∧ vx_L C n d A U H
theorem vx_Zq.moved {C n d : String} {A : Nat → Prop} {u U : State} {H : Heap} (hvm : u.vm.Alike U.vm) (h : vx_Zq C n d A u H) : vx_Zq C n d A U H := ⟨va_Zq.moved hvm h.1, vx_L.moved hvm h.2⟩
theorem vx_Zq.kept {C n d : String} {A : Nat → Prop} {U : State} {H H1 : Heap} (h : vx_Zq C n d A U H) (hq : ∀ a : Nat, a < H.size → ¬ A a → H1[a]? = H[a]?) : vx_Zq C n d A U H1 := ⟨va_Zq.kept h.1 hq, vx_L.kept h.2 hq⟩
theorem vx_Zq.narrow {C n d : String} {A B : Nat → Prop} {U : State} {H : Heap} (h : vx_Zq C n d A U H) (hAB : ∀ q, B q → A q) : vx_Zq C n d B U H := ⟨va_Zq.narrow h.1 hAB, vx_L.narrow h.2 hAB⟩
theorem vx_Zqof {args : Array Value} {s : State} {C n d : String} {A : Nat → Prop} (hl : (Cond.laysStatic C n d).before args s = true) (hini : (Cond.initialized C).before args s = true) (h : (Cond.isRef (.static C n d)).before args s = true) (hA : ∀ a : Nat, a < s.heap.size → ¬ A a) : vx_Zq C n d A s s.heap := by
  refine ⟨va_Zqof hl hini h hA, ?_⟩
  obtain ⟨c, k, i, f, a, cell, h1, h2, h3, h4, h5, h6, h7, h8, h9⟩ := Cond.laysStatic_spec hl
  exact ⟨c, k, i, f, a, cell, h1, h2, h3, h4, h5, h6, h7, h8, h9, hA a (Array.getElem?_eq_some_iff.mp h5).1⟩
theorem vx_isRef {C n d : String} {v : Value} {A : Nat → Prop} {s : State} {args : Array Value} (h : va_Z C n d v A s s.heap) (hv : v.isRef = true) : (Cond.isRef (.static C n d)).before args s = true := by
  obtain ⟨cf, kf, fi, f, a, cell, h1, h2, h3, h4, h5, h6, h7, -⟩ := h
  have he : (Term.static C n d).eval args s none [] s = some v := by
    simp [Term.eval, State.fieldNamed?, h1, h2, h4, h5, h6, h7]
  simp only [Cond.before, Cond.holds, Cond.value, he]
  cases v <;> simp_all [Value.isRef]
theorem vx_isRefq {C n d : String} {A : Nat → Prop} {s : State} {args : Array Value} (h : va_Zq C n d A s s.heap) : (Cond.isRef (.static C n d)).before args s = true := by
  rcases h with h | ⟨t, h⟩
  · exact vx_isRef h rfl
  · exact vx_isRef h rfl
/-- the same frame, seen from here: as if the method were called anew in this heap -/
theorem vx_rebase {T : State} (X : Stand p l e R s m args below meth c T locs cells slots) {R' : Room} (hf : R'.frames ≤ R.frames) (hl : R'.locals ≤ R.locals) (hc : cells + R'.cells ≤ R.cells) (hs : slots + R'.slots ≤ R.slots) :
    Stand p l e R' ((T.setVm s.vm).setFrames (.invoking m args :: below)) m args below meth c T [] 0 0 := by
  have htop : (T.setVm s.vm).topJava?.isSome := X.here.top
  have hF : ((T.setVm s.vm).setFrames (.invoking m args :: below)).frames = .invoking m args :: below := State.frames_setFrames _ (State.cur_lt_of_top htop)
  obtain ⟨g₀, hg0⟩ := Option.isSome_iff_exists.mp htop
  obtain ⟨r, hr⟩ := State.topJava?_eq_some.mp hg0
  have hl9 : e.platform.stackLimits (T.setVm s.vm).me = e.platform.stackLimits s.me := X.limits
  have hb9 : (T.setVm s.vm).me.stackBytes = s.me.stackBytes := X.bytes
  refine ⟨X.admits, X.cas, X.clock, hF, ?_, X.hears, X.method, X.code, X.here, X.tail, X.warmed, ?_, ?_, ?_⟩
  · have h := X.room
    have hU : ((T.setVm s.vm).setFrames (.invoking m args :: below)).localsInUse = s.localsInUse := by
      rw [State.localsInUse_invoking hF (meth := meth) (c := c) X.method X.code, State.localsInUse_invoking X.frames X.method X.code]
    simp only [State.hasRoom, Bool.and_eq_true, decide_eq_true_eq] at h ⊢
    obtain ⟨⟨⟨⟨h1, h2, h3, h4, h5, h6⟩, h7⟩, h8⟩, h9⟩ := h
    rw [X.frames, List.length_cons] at h2 h3
    have q1 := X.heapSize
    have q2 := X.used
    simp only [hF, hU, List.length_cons, State.stackLimits_setFrames, State.stackBytes_setFrames, hl9, hb9]
    refine ⟨⟨⟨⟨by omega, by omega, by omega, by omega, by omega, h6⟩, ?_⟩, ?_⟩, X.book⟩
    · show T.heap.size + R'.cells ≤ e.platform.maxCells
      omega
    · show T.slotsUsed + R'.slots ≤ e.platform.maxSlots
      omega
  · rw [State.stackLimits_setFrames]; rfl
  · rw [State.stackBytes_setFrames]; rfl
  · refine ⟨?_, Nat.le_refl _, Nat.le_refl _, ?_, ?_, fun a c9 h9 => ⟨c9, h9, rfl, rfl, fun _ _ => rfl⟩⟩
    · obtain ⟨t, ht, -⟩ := State.frames_cons hr
      show T.setVm s.vm = { ((T.setVm s.vm).setFrames (.invoking m args :: below)).setFrames (T.setVm s.vm).frames with heap := T.heap, slotsUsed := T.slotsUsed }
      rw [State.setFrames_setFrames, State.setFrames_self ht]
      rfl
    · show T.slotsUsed = T.slotsUsed + ((T.heap.toList.drop T.heap.size).map (·.slots.size)).sum
      rw [List.drop_eq_nil_of_le (Nat.le_of_eq Array.length_toList)]
      rfl
    · show ((T.heap.toList.drop T.heap.size).map (·.slots.size)).sum ≤ 0
      rw [List.drop_eq_nil_of_le (Nat.le_of_eq Array.length_toList)]
      exact Nat.le_refl _
/-- 'throw new E()': new; dup; invokespecial; athrow -/
theorem vx_throw0 {cc : ByteArray} {pc : Nat} (hexec : p.tables.exec = Jvm.exec) (hb : c.code = cc) (hl : l.stackTraces = false) {own cls : String} {names : List String} {ik ic mc ms : Nat} {A : Nat → Prop}
    (hown : s.vm.findClass own = some m.cls) (hcls : Bundle.fit cls = true) (hnames : ∀ n ∈ names, Bundle.fit n = true)
    (hk : (Cond.classLink own ik cls).before args s = true) (hini : (Cond.initialized cls).before args s = true) (hat : ∀ w ∈ vx_at0 own ic cls names, w.before args s = true)
    (hgood : ∀ w ∈ Cond.classLink own ik cls :: Cond.initialized cls :: vx_at0 own ic cls names, vx_ot w = true)
    (hU : vx_Zq Bundle.tN "UNASSIGNED_STACK" Bundle.steD A s s.heap) (hN : vx_Zq Bundle.tN "SUPPRESSED_SENTINEL" Bundle.listD A s s.heap) (hS : va_S A s.heap H locs) (hsize : ls.size = c.maxLocals)
    (d0 : decode cc pc = .ok (.new ik, 3)) (d3 : decode cc (pc + 3) = .ok (.dup, 1)) (d4 : decode cc (pc + 4) = .ok (.invokespecial ic, 3)) (d7 : decode cc (pc + 7) = .ok (.athrow, 1))
    (hout : ∀ x ∈ c.exceptionTable.toList, covers x (pc + 7) = false)
    (hRframes : names.length + 3 < R.frames) (hRlocals : (rest.map fun v => v.category).sum + (13 * (names.length + 1) + 42) ≤ R.locals) (hRcells : cells + 1 ≤ R.cells) (hRslots : slots + 6 ≤ R.slots) (hlocks : meth.locks = false)
    (hx : ∀ t : State, s.vm.Alike t.vm → H.size ≤ t.heap.size → (∀ q : Nat, q < H.size → t.heap[q]? = H[q]?) → XC cls s t)
    (hf : ∀ z ∈ locs, free z.base) (hc : cells + 1 ≤ mc) (hs : slots + 6 ≤ ms) :
    W p l e R s m args below meth c H locs cells slots (vx_MQ below Qc XC args s mc ms free) (F0 m pc ls rest) := by
  intro T hT X
  have htr : e.platform.stackTraces = false := (show e.platform.stackTraces = l.stackTraces by rw [X.admits.platform]).trans hl
  have Y := vx_rebase X (R' := { frames := R.frames, locals := R.locals, cells := 1, slots := 6 }) (Nat.le_refl _) (Nat.le_refl _) hRcells hRslots
  obtain ⟨s', hA⟩ : ∃ z, z = (T.setVm s.vm).setFrames (.invoking m args :: below) := ⟨_, rfl⟩
  rw [← hA] at Y
  have hvm : s'.vm = s.vm := by rw [hA]; rfl
  have hhp : s'.heap = H := by rw [hA]; exact hT
  have hW0 : s.WarmedH s'.vm := by rw [hvm]; exact State.WarmedH.refl s
  have hat' : ∀ w ∈ vx_at0 own ic cls names, w.before args s' = true := fun w hw => vx_ot_at hW0 hvm.symm (hgood w (List.mem_cons_of_mem _ (List.mem_cons_of_mem _ hw))) (hat w hw)
  have hk' : (Cond.classLink own ik cls).before args s' = true := vx_ot_at hW0 hvm.symm (hgood _ List.mem_cons_self) hk
  have hini' : (Cond.initialized cls).before args s' = true := vx_ot_at hW0 hvm.symm (hgood _ (List.mem_cons_of_mem _ List.mem_cons_self)) hini
  have hU' : vx_Zq Bundle.tN "UNASSIGNED_STACK" Bundle.steD A s' s'.heap := by rw [hhp]; exact vx_Zq.moved hW0.alike (hU.kept hS.2.1)
  have hN' : vx_Zq Bundle.tN "SUPPRESSED_SENTINEL" Bundle.listD A s' s'.heap := by rw [hhp]; exact vx_Zq.moved hW0.alike (hN.kept hS.2.1)
  have h : ∀ w ∈ Bundle.ownAtoms0 own ic cls names, w.before args s' = true := vx_own hat' (vx_isRefq hU'.1) (vx_isRefq hN'.1) hU'.2.word hN'.2.word
  have hown' : s'.vm.findClass own = some m.cls := by rw [hvm]; exact hown
  have hins : (Cond.instantiable cls 6).before args s' = true := h _ (by simp [Bundle.ownAtoms0])
  obtain ⟨vm₁, cX, kX, hfX, hkX, -, -, X₁, st1⟩ := Y.newCold hexec (own := own) (C := cls) (index := ik) (n := 6) hown' hk' hins hini'
    (g := F0 m pc ls rest) rfl (by rw [hb]; exact d0) (Nat.le_refl _) (Nat.le_refl _)
  generalize hT1 : (T.setVm vm₁).pushCell { cls := cX, slots := kX.instanceTypes.map defaultValue, vm := .none } = T1 at X₁ st1
  have hcat : (Value.ref T.heap.size).category = 1 := rfl
  have hcellA : T1.heap[T.heap.size]? = some (freshCell cX kX) := by rw [← hT1]; exact State.heap_pushCell_size _ _
  have d3' : decode c.code (pc + 3) = .ok (.dup, 1) := by rw [hb]; exact d3
  obtain ⟨U, hsteps, hrun, hend, hW, hsame, ce, hce, hO⟩ := X₁.ctorThrow0 hexec htr (own := own) (cls := cls) (names := names) (ic := ic) hown' hcls hnames h (fun x hx => nomatch hx) hfX hkX hcellA (by rw [hhp, hT]; exact Nat.le_refl _)
    (g := { method := m, pc := pc + 4, locals := ls, stack := .ref T.heap.size :: .ref T.heap.size :: rest, locked := none }) rfl hsize rfl rfl (rest := rest) rfl
    (by rw [hb]; exact d4) (by rw [hb]; exact d7) hout hRframes (by simp only [List.map_cons, List.sum_cons, hcat]; omega) hlocks
  obtain ⟨f1, f2⟩ := vx_frame hsame
  rw [hhp] at f1 f2
  have hWs : s.WarmedH U.vm := State.WarmedH.trans hW0 hW
  have hcl : s.vm.findClass cls = some ce.cls := by
    have h9 := hO.cls
    rw [hvm] at h9
    exact h9
  have hall : s.sameButNew ({ U with vm := s.vm } : State) locs mc ms := by
    subst hA
    obtain ⟨e1, e2⟩ := hsame
    rw [State.setFrames_setFrames] at e1
    have h2 : (T.setVm s.vm).sameButNew ({ U with vm := s.vm } : State) [] (0 + 1) (0 + 6) := ⟨e1, e2⟩
    have h3 := X.same.trans h2
    rw [List.append_nil] at h3
    exact h3.mono hc hs
  refine ⟨U, ?_, .threw T.heap.size, hrun, hend, Or.inr ⟨T.heap.size, rfl, cls, ce, locs, hx U hWs.alike f1 (fun q hq => f2 q hq (fun z hz => nomatch hz)), hce, hO.vm, hcl, hWs, hall, hf⟩⟩
  refine st1 _ ?_
  show Steps p.tables e below (T1.setTop { method := m, pc := pc + 3, locals := ls, stack := .ref T.heap.size :: rest, locked := none }) _
  jvm_step X₁.here [X₁.here.top, hexec, d3', Value.category]
  exact hsteps
/-- 'throw new E("text")': new; dup; ldc; invokespecial; athrow -/
theorem vx_throwS {cc : ByteArray} {pc : Nat} (hexec : p.tables.exec = Jvm.exec) (hb : c.code = cc) (hl : l.stackTraces = false) {own cls text : String} {names : List String} {ik is ic mc ms sa : Nat} {A : Nat → Prop}
    (hown : s.vm.findClass own = some m.cls) (hcls : Bundle.fit cls = true) (hnames : ∀ n ∈ names, Bundle.fit n = true)
    (hk : (Cond.classLink own ik cls).before args s = true) (hini : (Cond.initialized cls).before args s = true) (hstr : vk_R own is text sa s) (hat : ∀ w ∈ vx_atS own ic cls names, w.before args s = true)
    (hgood : ∀ w ∈ Cond.classLink own ik cls :: Cond.initialized cls :: vx_atS own ic cls names, vx_ot w = true)
    (hU : vx_Zq Bundle.tN "UNASSIGNED_STACK" Bundle.steD A s s.heap) (hN : vx_Zq Bundle.tN "SUPPRESSED_SENTINEL" Bundle.listD A s s.heap) (hS : va_S A s.heap H locs) (hsize : ls.size = c.maxLocals)
    (d0 : decode cc pc = .ok (.new ik, 3)) (d3 : decode cc (pc + 3) = .ok (.dup, 1)) (d4 : decode cc (pc + 4) = .ok (.ldc is, 2)) (d6 : decode cc (pc + 6) = .ok (.invokespecial ic, 3)) (d9 : decode cc (pc + 9) = .ok (.athrow, 1))
    (hout : ∀ x ∈ c.exceptionTable.toList, covers x (pc + 9) = false)
    (hRframes : names.length + 3 < R.frames) (hRlocals : (rest.map fun v => v.category).sum + (13 * (names.length + 1) + 43) ≤ R.locals) (hRcells : cells + 1 ≤ R.cells) (hRslots : slots + 6 ≤ R.slots) (hlocks : meth.locks = false)
    (hx : ∀ t : State, s.vm.Alike t.vm → H.size ≤ t.heap.size → (∀ q : Nat, q < H.size → t.heap[q]? = H[q]?) → XC cls s t)
    (hf : ∀ z ∈ locs, free z.base) (hc : cells + 1 ≤ mc) (hs : slots + 6 ≤ ms) :
    W p l e R s m args below meth c H locs cells slots (vx_MQ below Qc XC args s mc ms free) (F0 m pc ls rest) := by
  intro T hT X
  have htr : e.platform.stackTraces = false := (show e.platform.stackTraces = l.stackTraces by rw [X.admits.platform]).trans hl
  have Y := vx_rebase X (R' := { frames := R.frames, locals := R.locals, cells := 1, slots := 6 }) (Nat.le_refl _) (Nat.le_refl _) hRcells hRslots
  obtain ⟨s', hA⟩ : ∃ z, z = (T.setVm s.vm).setFrames (.invoking m args :: below) := ⟨_, rfl⟩
  rw [← hA] at Y
  have hvm : s'.vm = s.vm := by rw [hA]; rfl
  have hhp : s'.heap = H := by rw [hA]; exact hT
  have hW0 : s.WarmedH s'.vm := by rw [hvm]; exact State.WarmedH.refl s
  have hat' : ∀ w ∈ vx_atS own ic cls names, w.before args s' = true := fun w hw => vx_ot_at hW0 hvm.symm (hgood w (List.mem_cons_of_mem _ (List.mem_cons_of_mem _ hw))) (hat w hw)
  have hk' : (Cond.classLink own ik cls).before args s' = true := vx_ot_at hW0 hvm.symm (hgood _ List.mem_cons_self) hk
  have hini' : (Cond.initialized cls).before args s' = true := vx_ot_at hW0 hvm.symm (hgood _ (List.mem_cons_of_mem _ List.mem_cons_self)) hini
  have hU' : vx_Zq Bundle.tN "UNASSIGNED_STACK" Bundle.steD A s' s'.heap := by rw [hhp]; exact vx_Zq.moved hW0.alike (hU.kept hS.2.1)
  have hN' : vx_Zq Bundle.tN "SUPPRESSED_SENTINEL" Bundle.listD A s' s'.heap := by rw [hhp]; exact vx_Zq.moved hW0.alike (hN.kept hS.2.1)
  have h : ∀ w ∈ Bundle.ownAtoms own ic cls names, w.before args s' = true := vx_own hat' (vx_isRefq hU'.1) (vx_isRefq hN'.1) hU'.2.word hN'.2.word
  have hown' : s'.vm.findClass own = some m.cls := by rw [hvm]; exact hown
  have hins : (Cond.instantiable cls 6).before args s' = true := h _ (by simp [Bundle.ownAtoms])
  obtain ⟨vm₁, cX, kX, hfX, hkX, -, -, X₁, st1⟩ := Y.newCold hexec (own := own) (C := cls) (index := ik) (n := 6) hown' hk' hins hini'
    (g := F0 m pc ls rest) rfl (by rw [hb]; exact d0) (Nat.le_refl _) (Nat.le_refl _)
  generalize hT1 : (T.setVm vm₁).pushCell { cls := cX, slots := kX.instanceTypes.map defaultValue, vm := .none } = T1 at X₁ st1
  have hcat : (Value.ref T.heap.size).category = 1 := rfl
  have hcellA : T1.heap[T.heap.size]? = some (freshCell cX kX) := by rw [← hT1]; exact State.heap_pushCell_size _ _
  have d3' : decode c.code (pc + 3) = .ok (.dup, 1) := by rw [hb]; exact d3
  have d4' : decode c.code (pc + 4) = .ok (.ldc is, 2) := by rw [hb]; exact d4
  have hstr' : vk_R own is text sa s' := vk_R.warm hW0 hstr
  obtain ⟨U, hsteps, hrun, hend, hW, hsame, ce, hce, hO⟩ := X₁.ctorThrowS hexec htr (own := own) (cls := cls) (names := names) (ic := ic) hown' hcls hnames h (fun x hx => nomatch hx) hfX hkX hcellA (by rw [hhp, hT]; exact Nat.le_refl _) (msg := .ref sa) rfl
    (g := { method := m, pc := pc + 6, locals := ls, stack := .ref sa :: .ref T.heap.size :: .ref T.heap.size :: rest, locked := none }) rfl hsize rfl rfl (rest := rest) rfl
    (by rw [hb]; exact d6) (by rw [hb]; exact d9) hout hRframes (by simp only [List.map_cons, List.sum_cons, hcat]; omega) hlocks
  obtain ⟨f1, f2⟩ := vx_frame hsame
  rw [hhp] at f1 f2
  have hWs : s.WarmedH U.vm := State.WarmedH.trans hW0 hW
  have hcl : s.vm.findClass cls = some ce.cls := by
    have h9 := hO.cls
    rw [hvm] at h9
    exact h9
  have hall : s.sameButNew ({ U with vm := s.vm } : State) locs mc ms := by
    subst hA
    obtain ⟨e1, e2⟩ := hsame
    rw [State.setFrames_setFrames] at e1
    have h2 : (T.setVm s.vm).sameButNew ({ U with vm := s.vm } : State) [] (0 + 1) (0 + 6) := ⟨e1, e2⟩
    have h3 := X.same.trans h2
    rw [List.append_nil] at h3
    exact h3.mono hc hs
  refine ⟨U, ?_, .threw T.heap.size, hrun, hend, Or.inr ⟨T.heap.size, rfl, cls, ce, locs, hx U hWs.alike f1 (fun q hq => f2 q hq (fun z hz => nomatch hz)), hce, hO.vm, hcl, hWs, hall, hf⟩⟩
  refine st1 _ ?_
  show Steps p.tables e below (T1.setTop { method := m, pc := pc + 3, locals := ls, stack := .ref T.heap.size :: rest, locked := none }) _
  jvm_step X₁.here [X₁.here.top, hexec, d3', Value.category]
  exact X₁.ldcString hexec (own := own) (text := text) (index := is) (a := sa) hown' hstr'.1 hstr'.2
    (g := { method := m, pc := pc + 4, locals := ls, stack := .ref T.heap.size :: .ref T.heap.size :: rest, locked := none }) rfl d4' _ hsteps
/-- 'throw new E("text")', the text by a wide index -/
theorem vx_throwSW {cc : ByteArray} {pc : Nat} (hexec : p.tables.exec = Jvm.exec) (hb : c.code = cc) (hl : l.stackTraces = false) {own cls text : String} {names : List String} {ik is ic mc ms sa : Nat} {A : Nat → Prop}
    (hown : s.vm.findClass own = some m.cls) (hcls : Bundle.fit cls = true) (hnames : ∀ n ∈ names, Bundle.fit n = true)
    (hk : (Cond.classLink own ik cls).before args s = true) (hini : (Cond.initialized cls).before args s = true) (hstr : vk_R own is text sa s) (hat : ∀ w ∈ vx_atS own ic cls names, w.before args s = true)
    (hgood : ∀ w ∈ Cond.classLink own ik cls :: Cond.initialized cls :: vx_atS own ic cls names, vx_ot w = true)
    (hU : vx_Zq Bundle.tN "UNASSIGNED_STACK" Bundle.steD A s s.heap) (hN : vx_Zq Bundle.tN "SUPPRESSED_SENTINEL" Bundle.listD A s s.heap) (hS : va_S A s.heap H locs) (hsize : ls.size = c.maxLocals)
    (d0 : decode cc pc = .ok (.new ik, 3)) (d3 : decode cc (pc + 3) = .ok (.dup, 1)) (d4 : decode cc (pc + 4) = .ok (.ldc_w is, 3)) (d7 : decode cc (pc + 7) = .ok (.invokespecial ic, 3)) (d10 : decode cc (pc + 10) = .ok (.athrow, 1))
    (hout : ∀ x ∈ c.exceptionTable.toList, covers x (pc + 10) = false)
    (hRframes : names.length + 3 < R.frames) (hRlocals : (rest.map fun v => v.category).sum + (13 * (names.length + 1) + 43) ≤ R.locals) (hRcells : cells + 1 ≤ R.cells) (hRslots : slots + 6 ≤ R.slots) (hlocks : meth.locks = false)
    (hx : ∀ t : State, s.vm.Alike t.vm → H.size ≤ t.heap.size → (∀ q : Nat, q < H.size → t.heap[q]? = H[q]?) → XC cls s t)
    (hf : ∀ z ∈ locs, free z.base) (hc : cells + 1 ≤ mc) (hs : slots + 6 ≤ ms) :
    W p l e R s m args below meth c H locs cells slots (vx_MQ below Qc XC args s mc ms free) (F0 m pc ls rest) := by
  intro T hT X
  have htr : e.platform.stackTraces = false := (show e.platform.stackTraces = l.stackTraces by rw [X.admits.platform]).trans hl
  have Y := vx_rebase X (R' := { frames := R.frames, locals := R.locals, cells := 1, slots := 6 }) (Nat.le_refl _) (Nat.le_refl _) hRcells hRslots
  obtain ⟨s', hA⟩ : ∃ z, z = (T.setVm s.vm).setFrames (.invoking m args :: below) := ⟨_, rfl⟩
  rw [← hA] at Y
  have hvm : s'.vm = s.vm := by rw [hA]; rfl
  have hhp : s'.heap = H := by rw [hA]; exact hT
  have hW0 : s.WarmedH s'.vm := by rw [hvm]; exact State.WarmedH.refl s
  have hat' : ∀ w ∈ vx_atS own ic cls names, w.before args s' = true := fun w hw => vx_ot_at hW0 hvm.symm (hgood w (List.mem_cons_of_mem _ (List.mem_cons_of_mem _ hw))) (hat w hw)
  have hk' : (Cond.classLink own ik cls).before args s' = true := vx_ot_at hW0 hvm.symm (hgood _ List.mem_cons_self) hk
  have hini' : (Cond.initialized cls).before args s' = true := vx_ot_at hW0 hvm.symm (hgood _ (List.mem_cons_of_mem _ List.mem_cons_self)) hini
  have hU' : vx_Zq Bundle.tN "UNASSIGNED_STACK" Bundle.steD A s' s'.heap := by rw [hhp]; exact vx_Zq.moved hW0.alike (hU.kept hS.2.1)
  have hN' : vx_Zq Bundle.tN "SUPPRESSED_SENTINEL" Bundle.listD A s' s'.heap := by rw [hhp]; exact vx_Zq.moved hW0.alike (hN.kept hS.2.1)
  have h : ∀ w ∈ Bundle.ownAtoms own ic cls names, w.before args s' = true := vx_own hat' (vx_isRefq hU'.1) (vx_isRefq hN'.1) hU'.2.word hN'.2.word
  have hown' : s'.vm.findClass own = some m.cls := by rw [hvm]; exact hown
  have hins : (Cond.instantiable cls 6).before args s' = true := h _ (by simp [Bundle.ownAtoms])
  obtain ⟨vm₁, cX, kX, hfX, hkX, -, -, X₁, st1⟩ := Y.newCold hexec (own := own) (C := cls) (index := ik) (n := 6) hown' hk' hins hini'
    (g := F0 m pc ls rest) rfl (by rw [hb]; exact d0) (Nat.le_refl _) (Nat.le_refl _)
  generalize hT1 : (T.setVm vm₁).pushCell { cls := cX, slots := kX.instanceTypes.map defaultValue, vm := .none } = T1 at X₁ st1
  have hcat : (Value.ref T.heap.size).category = 1 := rfl
  have hcellA : T1.heap[T.heap.size]? = some (freshCell cX kX) := by rw [← hT1]; exact State.heap_pushCell_size _ _
  have d3' : decode c.code (pc + 3) = .ok (.dup, 1) := by rw [hb]; exact d3
  have d4' : decode c.code (pc + 4) = .ok (.ldc_w is, 3) := by rw [hb]; exact d4
  have hstr' : vk_R own is text sa s' := vk_R.warm hW0 hstr
  obtain ⟨U, hsteps, hrun, hend, hW, hsame, ce, hce, hO⟩ := X₁.ctorThrowS hexec htr (own := own) (cls := cls) (names := names) (ic := ic) hown' hcls hnames h (fun x hx => nomatch hx) hfX hkX hcellA (by rw [hhp, hT]; exact Nat.le_refl _) (msg := .ref sa) rfl
    (g := { method := m, pc := pc + 7, locals := ls, stack := .ref sa :: .ref T.heap.size :: .ref T.heap.size :: rest, locked := none }) rfl hsize rfl rfl (rest := rest) rfl
    (by rw [hb]; exact d7) (by rw [hb]; exact d10) hout hRframes (by simp only [List.map_cons, List.sum_cons, hcat]; omega) hlocks
  obtain ⟨f1, f2⟩ := vx_frame hsame
  rw [hhp] at f1 f2
  have hWs : s.WarmedH U.vm := State.WarmedH.trans hW0 hW
  have hcl : s.vm.findClass cls = some ce.cls := by
    have h9 := hO.cls
    rw [hvm] at h9
    exact h9
  have hall : s.sameButNew ({ U with vm := s.vm } : State) locs mc ms := by
    subst hA
    obtain ⟨e1, e2⟩ := hsame
    rw [State.setFrames_setFrames] at e1
    have h2 : (T.setVm s.vm).sameButNew ({ U with vm := s.vm } : State) [] (0 + 1) (0 + 6) := ⟨e1, e2⟩
    have h3 := X.same.trans h2
    rw [List.append_nil] at h3
    exact h3.mono hc hs
  refine ⟨U, ?_, .threw T.heap.size, hrun, hend, Or.inr ⟨T.heap.size, rfl, cls, ce, locs, hx U hWs.alike f1 (fun q hq => f2 q hq (fun z hz => nomatch hz)), hce, hO.vm, hcl, hWs, hall, hf⟩⟩
  refine st1 _ ?_
  show Steps p.tables e below (T1.setTop { method := m, pc := pc + 3, locals := ls, stack := .ref T.heap.size :: rest, locked := none }) _
  jvm_step X₁.here [X₁.here.top, hexec, d3', Value.category]
  exact X₁.ldcStringW hexec (own := own) (text := text) (index := is) (a := sa) hown' hstr'.1 hstr'.2
    (g := { method := m, pc := pc + 4, locals := ls, stack := .ref T.heap.size :: .ref T.heap.size :: rest, locked := none }) rfl d4' _ hsteps
end Ends
section Bodies
variable {l : Launch}
theorem vx_ofW {y : MethodName} {ws ws' : List Cond} {rm : Room} {Pc : Array Value → State → Prop} {Qc : Array Value → State → Outcome → State → Prop} {XC : String → State → State → Prop} {mc ms : Nat} {free : Addr → Prop} {cc : ByteArray} {maxL : Nat} {ret : Option FieldType}
    (hy : plainName y.cls = true) (hw : ws = Cond.code y cc maxL ret :: ws')
    (body : ∀ p e s m args below meth c s₁, BodyLoose p l y (headSpec ws rm) cc maxL ret e s m args below meth c s₁ → c.maxLocals = maxL → (∀ x ∈ c.exceptionTable.toList, False) → Pc args s →
      W p l e (headSpec ws rm).room s m args below meth c s.heap [] 0 0 (vx_MQ below Qc XC args s mc ms free) (entryFrame m args maxL)) : vx_Met l y ws rm Pc Qc XC mc ms free := by
  refine MetFree.of_bodyS (code := cc) (maxLocals := maxL) (ret := ret) hy ?_ ?_
  · intro args s m h hn
    obtain ⟨meth, c, h1, h2, h3, h4, h5, h6, -, -⟩ := Cond.code_spec hn (atoms_spec (ws := ws) h _ (by rw [hw]; exact List.mem_cons_self))
    exact ⟨meth, c, h1, h2, h3, h4, h5, h6⟩
  · intro p e s m args below meth c s₁ B hml hP _
    have hh0 : s₁.heap = s.heap := by rw [B.state]; rfl
    have ht : ∀ x ∈ c.exceptionTable.toList, False := by
      obtain ⟨meth9, c9, h1, h2, -, -, -, -, h7, -⟩ := Cond.code_spec B.named (atoms_spec (ws := ws) B.pre _ (by rw [hw]; exact List.mem_cons_self))
      cases Option.some.inj (h1.symm.trans B.method)
      cases Option.some.inj (h2.symm.trans (Stand.of_body B).code)
      intro x hx
      rw [Array.isEmpty_iff.mp h7] at hx
      cases hx
    obtain ⟨t, a1, o, b1, b2, b3⟩ := body p e s m args below meth c s₁ B hml ht hP s₁ hh0 (Stand.of_body B)
    exact ⟨t, o, a1, b1, b2, b3⟩
/-- the table of a body with handlers -/
theorem vx_table {p : Program} {x y : MethodName} {S : Spec} {cc bytes : ByteArray} {maxL maxL' : Nat} {ret ret' : Option FieldType} {e : Env} {s s₁ : State} {m : MethodId} {args : Array Value} {below : List Frame} {meth : Method} {c : Code} {hh : List (Nat × Nat × Nat × Nat)}
    (B : BodyLoose p l y S cc maxL ret e s m args below meth c s₁) (h : (Cond.codeWith y bytes maxL' ret' hh).before args s = true) : c.exceptionTable.toList = tableOf hh := by
  obtain ⟨m9, meth9, c9, hn9, h1, h2, -, -, h6, -⟩ := Cond.codeWith_spec h
  cases Option.some.inj (hn9.symm.trans B.named)
  cases Option.some.inj (h1.symm.trans B.method)
  cases Option.some.inj (h2.symm.trans (Stand.of_body B).code)
  rw [← h6, table_eq]
end Bodies
end VXA
/-! ===== END ===== -/
/-! ===== BEGIN a static call of a method with an exception table ===== -/
section VXS
variable {p : Program} {l : Launch} {e : Env} {R : Room} {s : State} {m : MethodId} {args : Array Value} {below : List Frame} {meth : Method} {c : Code} {T : State} {H : Heap} {locs : List Loc} {cells slots : Nat}
abbrev vx_CSW (R : Room) (s : State) (args : Array Value) (own : String) (index : Nat) (y : MethodName) (bytes : ByteArray) (maxL : Nat) (ret : Option FieldType) (hh : List (Nat × Nat × Nat × Nat)) (ws : List Cond) (rm : Room) (mc ms n : Nat) : Prop :=
  (rm.cells = mc ∧ rm.slots = ms ∧ rm.frames + 1 ≤ R.frames ∧ 8 + (maxL + 11) + rm.locals ≤ R.locals ∧ (∀ w ∈ ws, ∀ (a' : Array Value) (U : State), s.WarmedH U.vm → w.before a' U = true) ∧ Cond.codeWith y bytes maxL ret hh ∈ ws) ∧
  (Cond.codeWith y bytes maxL ret hh).before args s = true ∧ (Cond.initialized y.cls).before args s = true ∧ (y.cls ≠ "java/lang/invoke/MethodHandle" ∧ y.cls ≠ "java/lang/invoke/VarHandle") ∧
  (∀ sig, parseMethodDescriptor y.desc = some sig → n = sig.parameters.length) ∧ (Cond.methodLink own index y).before args s = true ∧ (Cond.static y).before args s = true
theorem vx_cwSW {own : String} {index maxL mc ms : Nat} {y : MethodName} {bytes : ByteArray} {ret : Option FieldType} {hh : List (Nat × Nat × Nat × Nat)} {Ts ws ws' : List Cond} {rm : Room} (n : Nat) (ht : ∀ w ∈ Ts, w.before args s = true) (hT : GoodIn Ts (va_wsS own index y ws)) (hw : ws = Cond.codeWith y bytes maxL ret hh :: ws') (hrc : rm.cells = mc) (hrs : rm.slots = ms)
    (hd : y.cls ≠ "java/lang/invoke/MethodHandle" ∧ y.cls ≠ "java/lang/invoke/VarHandle" ∧ (parseMethodDescriptor y.desc).map (fun d => d.parameters.length) = some n) (hR : rm.frames + 1 ≤ R.frames ∧ 8 + (maxL + 11) + rm.locals ≤ R.locals) :
    vx_CSW R s args own index y bytes maxL ret hh ws rm mc ms n := by
  have ok : ∀ w ∈ va_wsS own index y ws, w.before args s = true := fun w h => ht w (hT w h).1
  have hG : GoodIn Ts ws := fun w h => hT w (by unfold va_wsS; exact List.mem_append_right _ h)
  have hc : Cond.codeWith y bytes maxL ret hh ∈ ws := by rw [hw]; exact List.mem_cons_self
  refine ⟨⟨hrc, hrs, hR.1, hR.2, pay_in ht hG, hc⟩, ht _ (hG _ hc).1, ok _ (by simp [va_wsS]), ⟨hd.1, hd.2.1⟩, fun sig h => ?_, ok _ (by simp [va_wsS]), ok _ (by simp [va_wsS])⟩
  have h2 := hd.2.2
  rw [h] at h2
  exact (Option.some.inj h2).symm
theorem vx_callSW (X : Stand p l e R s m args below meth c T locs cells slots) (hexec : p.tables.exec = Jvm.exec) {own : String} {index : Nat} {y : MethodName} {bytes : ByteArray} {maxL : Nat} {ret : Option FieldType} {hh : List (Nat × Nat × Nat × Nat)}
    (hown : s.vm.findClass own = some m.cls) (hlink : (Cond.methodLink own index y).before args s = true) (hstat : (Cond.static y).before args s = true) (hinit : (Cond.initialized y.cls).before args s = true)
    (hcode : (Cond.codeWith y bytes maxL ret hh).before args s = true) (hy : y.cls ≠ "java/lang/invoke/MethodHandle" ∧ y.cls ≠ "java/lang/invoke/VarHandle")
    {W9 : Nat} {Pre : Pt → Array Value → Prop} {Post : Pt → Array Value → Option Value → Pt → Prop} (hK : Back l R p e below s args y 3 W9 Pre Post)
    {g : JFrame} (hg : g.method = m) (hsize : g.locals.size = c.maxLocals) {argsL rest : List Value} (hlen : ∀ sig, parseMethodDescriptor y.desc = some sig → argsL.length = sig.parameters.length)
    (hstack : g.stack = argsL.reverse ++ rest) (hW : 2 * g.monitorRoom + (rest.map fun v => v.category).sum ≤ W9) (hdg : decode c.code g.pc = .ok (.invokestatic index, 3))
    (hpre : ∀ vm₁, s.WarmedH vm₁ → Pre ⟨T.setVm vm₁, locs, cells, slots⟩ argsL.toArray) :
    ∃ (v : Option Value) (vm₁ : Vm) (B : Pt), s.WarmedH vm₁ ∧ Stand p l e R s m args below meth c B.U B.locs B.cells B.slots ∧ Post ⟨T.setVm vm₁, locs, cells, slots⟩ argsL.toArray v B ∧
      ∀ target, Steps p.tables e below (B.U.setTop { g with pc := g.pc + 3, stack := v.toList ++ rest }) target → Steps p.tables e below (T.setTop g) target := by
  obtain ⟨mk, methM, cM, hnamed, hmethM, -, -, -, -, -, -, hsigM⟩ := Cond.codeWith_spec hcode
  have hstatic : methM.isStatic = true := Cond.static_spec hnamed hmethM hstat
  obtain ⟨kP, hkP, -⟩ := className_of_methodNamed hnamed
  have hinitP : kP.init = .initialized := Cond.initialized_spec (findClass_of_methodNamed hnamed) hkP hinit
  obtain ⟨vm₁, X₁, hstep₁⟩ := X.invokestatic hexec hown hlink hnamed hmethM hstatic hkP hinitP hy (g := g) hg (argsL := argsL) (rest := rest) (hlen _ hsigM) hstack hdg
  obtain ⟨v, B, X', hpost, hsteps⟩ := hK m meth c ⟨T.setVm vm₁, locs, cells, slots⟩ { g with stack := rest } (.invokestatic index) mk argsL.toArray X₁ hg hsize hdg hW (X₁.named hnamed) (hpre vm₁ X₁.warmed)
  exact ⟨v, vm₁, B, X₁.warmed, X', hpost, fun target h => hstep₁ _ fun acts => by rw [doInvoke_state]; exact hsteps.trans h⟩
theorem vx_runSW {y : MethodName} {bytes cc : ByteArray} {maxL nL mc ms n index : Nat} {ret : Option FieldType} {hh : List (Nat × Nat × Nat × Nat)} {ws : List Cond} {rm : Room} {Pc : Array Value → State → Prop} {Qc : Array Value → State → Outcome → State → Prop} {free : Addr → Prop} {Ts : List Cond} {own : String} {As rest : List Value} {g : JFrame}
    (S : CallFix p m c cc nL s args Ts own) (hM : Met l y ws rm Pc Qc mc ms free) (cw : vx_CSW R s args own index y bytes maxL ret hh ws rm mc ms n) (hp : PreS s H Pc As)
    (hg : g.method = m) (hn : As.length = n) (hsize : g.locals.size = nL) (hstack : g.stack = As.reverse ++ rest) (hW : 2 * g.monitorRoom + (rest.map fun v => v.category).sum ≤ 8) (hdg : decode cc g.pc = .ok (.invokestatic index, 3)) (hf : cells + mc ≤ R.cells ∧ slots + ms ≤ R.slots) :
    va_Run p l e R s m args below meth c H locs cells slots mc ms g rest (Qc As.toArray) (free) := by
  obtain ⟨⟨hrc, hrs, hfr, hlo, hws, hcw⟩, hcode, hini, hy, hlen, hl, hstt⟩ := cw
  have hK : Back l R p e below s args y 3 8 (PreOf R mc ms Pc) (PostOf Qc mc ms free) := va_backW (hh := hh) (bytes := bytes) (maxL := maxL) (ret := ret) hM hp.1 hrc hrs hfr hlo hws hcw (fun a' U hW => word_at hW (Or.inl (by first | rfl | simp [Cond.onTables, Cond.keeps, Cond.steady])) hini)
  obtain ⟨hx, hb, hml, ho, -⟩ := S
  intro T hT X
  obtain ⟨v, vm₁, ⟨U', l2, c2, s2⟩, hW₁, X', ⟨g', mk, t, L, e1, e2, hq, h1, hL, h2, h3⟩, st⟩ := vx_callSW X hx (hh := hh) (bytes := bytes) (maxL := maxL) (ret := ret) ho hl hstt hini hcode hy hK hg (hsize.trans hml.symm) (argsL := As) (rest := rest) (fun sig h => hn.trans (hlen sig h)) hstack hW (by rw [hb]; exact hdg)
    (fun vm₁ hW₁ => ⟨hf.1, hf.2, hp.2 (T.setVm vm₁) hT hW₁⟩)
  dsimp only [Pt.U, Pt.locs, Pt.cells, Pt.slots] at X' e1 e2 h1 h2 h3 st
  subst h1; subst h2; subst h3
  exact ⟨v, (T.setVm vm₁).calling g' mk As.toArray, t, U', L, hT, X', hL, e1, e2, hq, st⟩
/-- not caught here, past rows that name other classes: it goes on to the caller -/
theorem vx_outP {p : Program} {l : Launch} {e : Env} {R : Room} {s : State} {m : MethodId} {args : Array Value} {below : List Frame} {meth : Method} {c : Code} {H : Heap} {locs : List Loc} {cells slots : Nat} {free : Addr → Prop} {ls : Array Slot} {rest : List Value} {Qc : Array Value → State → Outcome → State → Prop} {XC : String → State → State → Prop}
    {pc : Nat} {own E : String} {ce : Cell} {q : Addr} {mc ms : Nat} (hown : s.vm.findClass own = some m.cls) (hlocks : meth.locks = false)
    (hpass : ∀ z ∈ c.exceptionTable.toList, covers z pc = false ∨ (z.catchType ≠ 0 ∧ ∃ nm : String, (Cond.classLink own z.catchType nm).before args s = true ∧ va_Nc E nm s)) (hcell : H[q]? = some ce) (hv : ce.vm = .none) (hcl : s.vm.findClass E = some ce.cls)
    (hx : ∀ t : State, t.heap = H → s.vm.Alike t.vm → XC E s t) (hf : ∀ z ∈ locs, free z.base) (hc : cells ≤ mc) (hs : slots ≤ ms) :
    vx_W p l e R s m args below meth c H locs cells slots (vx_MQ below Qc XC args s mc ms free) (F0 m pc ls rest) q := by
  intro T hT X
  have hpl : e.platform.magicAccessors = ({} : Platform).magicAccessors := by rw [X.admits.platform]
  obtain ⟨vm', hW', X', st⟩ := X.outThrough hlocks q (g := F0 m pc ls rest) rfl rfl rfl (cell := ce) (by rw [hT]; exact hcell) (by rw [hv]; rfl)
    (by obtain ⟨k9, h9, -⟩ := Vm.findClass_spec hcl; exact ⟨k9, h9⟩) (fun z hz => by
      rcases hpass z hz with h | ⟨hz0, nm, hl1, hn1⟩
      · exact Or.inl h
      · obtain ⟨c6, hc6, hcl6⟩ := Cond.classLink_spec hown hl1 e.platform hpl
        obtain ⟨a8, b8, h1, h2, h3⟩ := hn1
        cases Option.some.inj (h1.symm.trans hcl)
        cases Option.some.inj (h2.symm.trans hc6)
        exact Or.inr ⟨hz0, _, hcl6, h3⟩)
  obtain ⟨g₀, hfr⟩ := X'.frames_eq
  have hcell9 : ((T.setVm vm').setFrames (.throwing q :: below)).heap[q]? = some ce := by
    show T.heap[q]? = some ce
    rw [hT]; exact hcell
  have hend : Ended ((T.setVm vm').setFrames (.throwing q :: below)) below (.threw q) := State.frames_setFrames _ (State.cur_lt_of_frames hfr)
  refine ⟨(T.setVm vm').setFrames (.throwing q :: below), ?_, .threw q, X'.here.running, hend, Or.inr ⟨q, rfl, E, ce, locs, hx _ hT (X'.ends _).1.alike, hcell9, hv, hcl, (X'.ends _).1, (X'.ends _).2.mono hc hs, hf⟩⟩
  rw [X.pushThrowing_eq]
  exact st
/-- a thing of a world lies in the heap -/
theorem vx_lt {D : va_G} {cl : List vw_C} {ws : va_W} {H1 : Heap} (h : va_P D cl ws H1) {k : Nat} {q : Nat × va_E} (hk : ws[k]? = some q) : q.1 < H1.size := (h k q hk).lt
end VXS
/-! ===== END ===== -/
/-! ===== BEGIN methods with a table of their own: called by a name, returning or throwing ===== -/
section VXH
/-! vx_backW, vx_callVX, vx_callSX, vx_callVW, vx_runVW, vx_runVX, vx_runSX, vx_ofWH follow the same proofs as their sisters above (Free/Laws.lean, Shelf42/LK1.lean); vx_outP calls Shelf42/NT130.lean (outThrough). -/
section
variable {l : Launch} {R : Room} {p : Program} {e : Env} {below : List Frame} {s : State} {sargs : Array Value} {y : MethodName} {len W9 : Nat}
theorem vx_backW {ws : List Cond} {rm : Room} {Pc : Array Value → State → Prop} {Qc : Array Value → State → Outcome → State → Prop} {XC : String → State → State → Prop} {mc ms : Nat} {free : Addr → Prop} {bytes : ByteArray} {maxL : Nat} {ret : Option FieldType} {hh : List (Nat × Nat × Nat × Nat)}
    (hM : vx_Met l y ws rm Pc Qc XC mc ms free) (hblind : FrameBlind Pc) (hrc : rm.cells = mc) (hrs : rm.slots = ms)
    (hframes : rm.frames + 1 ≤ R.frames) (hlocals : W9 + (maxL + 11) + rm.locals ≤ R.locals)
    (hws : ∀ w ∈ ws, ∀ a' U, s.WarmedH U.vm → w.before a' U = true) (hcode : Cond.codeWith y bytes maxL ret hh ∈ ws) (hinit : ∀ a' U, s.WarmedH U.vm → (Cond.initialized y.cls).before a' U = true) :
    vx_Back l R p e below s sargs y len W9 (PreOf R mc ms Pc) (PostOf Qc mc ms free) (vx_Post XC mc ms free) := by
  intro m meth c A g ig mk a X hg hsize hdg hW hn hp
  have h1 : (headSpec ws rm).pre.before a A.U = true := atoms_intro fun w hw => hws w hw _ _ X.warmed
  have h2 : (Cond.codeWith y bytes maxL ret hh).before a A.U = true := hws _ hcode _ _ X.warmed
  have h3 : (Cond.initialized y.cls).before a A.U = true := hinit _ _ X.warmed
  have h4 : A.cells + (headSpec ws rm).room.cells ≤ R.cells := by rw [show (headSpec ws rm).room.cells = mc from hrc]; exact hp.1
  have h5 : A.slots + (headSpec ws rm).room.slots ≤ R.slots := by rw [show (headSpec ws rm).room.slots = ms from hrs]; exact hp.2.1
  have hPc : Pc a (A.U.calling g mk a) := hblind _ _ _ _ hp.2.2
  obtain ⟨U, Ls, c0, s0⟩ := A
  dsimp only [Pt.U, Pt.locs, Pt.cells, Pt.slots] at h1 h2 h3 h4 h5 X hn hPc ⊢
  obtain ⟨m9, methY, cY, hn9, hmY, hcY, -, hlY, -⟩ := Cond.codeWith_spec h2
  cases Option.some.inj (hn9.symm.trans hn)
  obtain ⟨kY, hkY, -⟩ := className_of_methodNamed hn
  have hinitY : kY.init = .initialized := Cond.initialized_spec (findClass_of_methodNamed hn) hkY h3
  have h : At U g.method c below := by rw [hg]; exact X.here
  have hlocals9 : W9 + (maxL + 11) + (headSpec ws rm).room.locals ≤ R.locals := hlocals
  have happ : (headSpec ws rm).appliesLoose y e.platform (U.calling g mk a) = true :=
    Spec.appliesLoose_calling (g := g) h hdg hn hkY hinitY
      (X.room_calling (g := g) (R' := (headSpec ws rm).room) hsize hmY hcY hframes (by rw [hlY]; omega) h4 h5) h1
  obtain ⟨mid, hmid⟩ := h.above
  have hfr : (U.setTop g).frames = (.java g :: mid) ++ below := by rw [State.frames_setTop' g h.top, hmid]; rfl
  obtain ⟨o, s₂, hsteps, -, hend, hq⟩ := Steps.callFree hM p X.admits X.cas X.clock (acts := []) hfr happ hPc trivial
  have hq' : vx_Q Qc XC mc ms free a (U.calling g mk a) o s₂ := hq
  rw [State.frames_setTop' g h.top] at hend
  obtain ⟨g₀, hg0⟩ := Option.isSome_iff_exists.mp h.top
  obtain ⟨r, hr⟩ := State.topJava?_eq_some.mp hg0
  have hr' : (({ U with heap := s₂.heap, slotsUsed := s₂.slotsUsed } : State).setVm s₂.vm).frames = .java g₀ :: r := hr
  rcases hq' with ⟨hqc, L, hfe, hL⟩ | ⟨q, rfl, E, ce, L, hx, hce, hcv, hcl, hW₂, hsm, hL⟩
  · obtain ⟨⟨v, rfl⟩, hW₂, e2, q2, q3, q4, q5, q6⟩ := id hfe
    have e3 : s₂ = ({ (U.calling g mk a).setFrames s₂.frames with heap := s₂.heap, slotsUsed := s₂.slotsUsed } : State).setVm s₂.vm := by
      have : s₂ = ({ s₂ with vm := (U.calling g mk a).vm } : State).setVm s₂.vm := rfl
      rw [e2] at this
      exact this
    obtain ⟨c₂, i₂, len₂, hc₂, hd₂, hf₂⟩ := hend
    have hW' : U.WarmedH s₂.vm := hW₂
    have hcc : c₂ = c := by
      have h1 : s₂.code? g.method = U.code? g.method := by
        rw [State.code?_eq, State.code?_eq, hW'.alike.method?]
      exact Option.some.inj (hc₂.symm.trans (h1.trans h.code))
    subst hcc
    have hlen : len₂ = len := by rw [hdg] at hd₂; cases hd₂; rfl
    subst hlen
    have hs₂ : s₂ = (({ U with heap := s₂.heap, slotsUsed := s₂.slotsUsed } : State).setVm s₂.vm).setTop { g with pc := g.pc + len₂, stack := v.toList ++ g.stack } := by
      refine e3.trans ?_
      rw [hf₂, State.calling_eq h.top, State.setFrames_setFrames, State.setTop_of_frames _ hr', hr]
      rfl
    have hsame : U.sameButNew ({ U with heap := s₂.heap, slotsUsed := s₂.slotsUsed } : State) L mc ms := by
      refine ⟨?_, q2, q3, q4, q5, q6⟩
      obtain ⟨t, ht, -⟩ := State.frames_cons hr
      show ({ U with heap := s₂.heap, slotsUsed := s₂.slotsUsed } : State) = { U.setFrames U.frames with heap := s₂.heap, slotsUsed := s₂.slotsUsed }
      rw [State.setFrames_self ht]
    subst hg
    refine Or.inl ⟨v, ⟨(({ U with heap := s₂.heap, slotsUsed := s₂.slotsUsed } : State).setVm s₂.vm), Ls ++ L, c0 + mc, s0 + ms⟩,
      ⟨X.admits, X.cas, X.clock, X.frames, X.room, X.hears, X.method, X.code, (X.here.setHeapUsed s₂.heap s₂.slotsUsed).setVm hW'.alike, X.tail, State.WarmedH.trans X.warmed hW', X.limits, X.bytes, X.same.trans (hsame.setVm s.vm)⟩,
      ⟨g, mk, s₂, L, rfl, rfl, hqc, rfl, hL, rfl, rfl⟩, ?_⟩
    show Steps p.tables e below _ ((({ U with heap := s₂.heap, slotsUsed := s₂.slotsUsed } : State).setVm s₂.vm).setTop { g with pc := g.pc + len₂, stack := v.toList ++ g.stack })
    rw [← hs₂]
    exact hsteps
  · obtain ⟨e2, q2, q3, q4, q5, q6⟩ := id hsm
    have e3 : s₂ = ({ (U.calling g mk a).setFrames s₂.frames with heap := s₂.heap, slotsUsed := s₂.slotsUsed } : State).setVm s₂.vm := by
      have : s₂ = ({ s₂ with vm := (U.calling g mk a).vm } : State).setVm s₂.vm := rfl
      rw [e2] at this
      exact this
    have hf₂ : s₂.frames = .throwing q :: .java g :: U.frames.tail := hend
    have hW' : U.WarmedH s₂.vm := hW₂
    have hs₂ : s₂ = ((({ U with heap := s₂.heap, slotsUsed := s₂.slotsUsed } : State).setVm s₂.vm).setTop g).pushFrame (.throwing q) := by
      refine e3.trans ?_
      rw [hf₂, State.calling_eq h.top, State.setFrames_setFrames, State.pushFrame, State.frames_setTop _ hr', State.setTop_of_frames _ hr', State.setFrames_setFrames, hr]
      rfl
    have hsame : U.sameButNew ({ U with heap := s₂.heap, slotsUsed := s₂.slotsUsed } : State) L mc ms := by
      refine ⟨?_, q2, q3, q4, q5, q6⟩
      obtain ⟨t, ht, -⟩ := State.frames_cons hr
      show ({ U with heap := s₂.heap, slotsUsed := s₂.slotsUsed } : State) = { U.setFrames U.frames with heap := s₂.heap, slotsUsed := s₂.slotsUsed }
      rw [State.setFrames_self ht]
    subst hg
    refine Or.inr ⟨q, ⟨(({ U with heap := s₂.heap, slotsUsed := s₂.slotsUsed } : State).setVm s₂.vm), Ls ++ L, c0 + mc, s0 + ms⟩,
      ⟨X.admits, X.cas, X.clock, X.frames, X.room, X.hears, X.method, X.code, (X.here.setHeapUsed s₂.heap s₂.slotsUsed).setVm hW'.alike, X.tail, State.WarmedH.trans X.warmed hW', X.limits, X.bytes, X.same.trans (hsame.setVm s.vm)⟩,
      ⟨g, mk, s₂, L, E, ce, rfl, rfl, hx, hce, hcv, hcl, rfl, hL, rfl, rfl⟩, ?_⟩
    show Steps p.tables e below _ (((({ U with heap := s₂.heap, slotsUsed := s₂.slotsUsed } : State).setVm s₂.vm).setTop g).pushFrame (.throwing q))
    rw [← hs₂]
    exact hsteps
end
variable {p : Program} {l : Launch} {e : Env} {R : Room} {s : State} {m : MethodId} {args : Array Value} {below : List Frame} {meth : Method} {c : Code} {T : State} {H : Heap} {locs : List Loc} {cells slots : Nat}
theorem vx_callVX (X : Stand p l e R s m args below meth c T locs cells slots) (hexec : p.tables.exec = Jvm.exec) {own C : String} {index : Nat} {y : MethodName} {bytes : ByteArray} {maxL : Nat} {ret : Option FieldType} {hh : List (Nat × Nat × Nat × Nat)}
    (hown : s.vm.findClass own = some m.cls) (hlink : (Cond.methodLink own index y).before args s = true) (hinst : (Cond.instanceMethod y).before args s = true) (hsel : (Cond.selects C y y).before args s = true)
    (hcode : (Cond.codeWith y bytes maxL ret hh).before args s = true) (hy : y.cls ≠ "java/lang/invoke/MethodHandle" ∧ y.cls ≠ "java/lang/invoke/VarHandle")
    {W9 : Nat} {Pre : Pt → Array Value → Prop} {Post : Pt → Array Value → Option Value → Pt → Prop} {PostX : Pt → Array Value → Addr → Pt → Prop} (hK : vx_Back l R p e below s args y 3 W9 Pre Post PostX)
    {b : Addr} {cellB : Cell} (hcell : T.heap[b]? = some cellB) (hobj : cellB.vm.isStatics = false) (hcls : s.vm.findClass C = some cellB.cls)
    {g : JFrame} (hg : g.method = m) (hsize : g.locals.size = c.maxLocals) {argsL rest : List Value} (hlen : ∀ sig, parseMethodDescriptor y.desc = some sig → argsL.length = sig.parameters.length)
    (hstack : g.stack = argsL.reverse ++ .ref b :: rest) (hW : 2 * g.monitorRoom + (rest.map fun v => v.category).sum ≤ W9) (hdg : decode c.code g.pc = .ok (.invokevirtual index, 3))
    (hpre : ∀ vm₁, s.WarmedH vm₁ → Pre ⟨T.setVm vm₁, locs, cells, slots⟩ (Value.ref b :: argsL).toArray) :
    (∃ (v : Option Value) (vm₁ : Vm) (B : Pt), s.WarmedH vm₁ ∧ Stand p l e R s m args below meth c B.U B.locs B.cells B.slots ∧ Post ⟨T.setVm vm₁, locs, cells, slots⟩ (Value.ref b :: argsL).toArray v B ∧
      ∀ target, Steps p.tables e below (B.U.setTop { g with pc := g.pc + 3, stack := v.toList ++ rest }) target → Steps p.tables e below (T.setTop g) target) ∨
    (∃ (q : Addr) (vm₁ : Vm) (B : Pt), s.WarmedH vm₁ ∧ Stand p l e R s m args below meth c B.U B.locs B.cells B.slots ∧ PostX ⟨T.setVm vm₁, locs, cells, slots⟩ (Value.ref b :: argsL).toArray q B ∧
      Steps p.tables e below (T.setTop g) ((B.U.setTop { g with stack := rest }).pushFrame (.throwing q))) := by
  obtain ⟨mk, methM, hnamed, hmethM, hstM, habM⟩ := Cond.instanceMethod_spec hinst
  obtain ⟨m8, methM', cM, hn8, hmethM', -, -, -, -, -, -, hsigM⟩ := Cond.codeWith_spec hcode
  cases Option.some.inj (hn8.symm.trans hnamed)
  cases hmethM.symm.trans hmethM'
  obtain ⟨c2, r2, m2, q1, q2, q3, q4, kP, hkP, hkPi⟩ := Cond.selects_spec hsel
  cases hcls.symm.trans q1
  cases (State.methodFound?_of_named hnamed hy).symm.trans q2
  cases hnamed.symm.trans q3
  have hselP : selectMethod e.platform s.vm cellB.cls mk = .method mk := by rw [Launch.admits_selectMethod X.admits]; exact q4
  obtain ⟨vm₁, X₁, hstep₁⟩ := X.invokevirtual hexec hown hlink hnamed hmethM hstM hkP hkPi hy (a := b) (cell := cellB) hcell
    (fun z h => by rw [h] at hobj; cases hobj) hselP hmethM habM hkP hkPi (g := g) hg (argsL := argsL) (rest := rest) (hlen _ hsigM) hstack hdg
  rcases hK m meth c ⟨T.setVm vm₁, locs, cells, slots⟩ { g with stack := rest } (.invokevirtual index) mk (Value.ref b :: argsL).toArray X₁ hg hsize hdg hW (X₁.named hnamed) (hpre vm₁ X₁.warmed) with ⟨v, B, X', hpost, hsteps⟩ | ⟨q, B, X', hpost, hsteps⟩
  · exact Or.inl ⟨v, vm₁, B, X₁.warmed, X', hpost, fun target h => hstep₁ _ fun acts => by rw [doInvoke_state]; exact hsteps.trans h⟩
  · exact Or.inr ⟨q, vm₁, B, X₁.warmed, X', hpost, hstep₁ _ fun acts => by rw [doInvoke_state]; exact hsteps⟩
theorem vx_callSX (X : Stand p l e R s m args below meth c T locs cells slots) (hexec : p.tables.exec = Jvm.exec) {own : String} {index : Nat} {y : MethodName} {bytes : ByteArray} {maxL : Nat} {ret : Option FieldType} {hh : List (Nat × Nat × Nat × Nat)}
    (hown : s.vm.findClass own = some m.cls) (hlink : (Cond.methodLink own index y).before args s = true) (hstat : (Cond.static y).before args s = true) (hinit : (Cond.initialized y.cls).before args s = true)
    (hcode : (Cond.codeWith y bytes maxL ret hh).before args s = true) (hy : y.cls ≠ "java/lang/invoke/MethodHandle" ∧ y.cls ≠ "java/lang/invoke/VarHandle")
    {W9 : Nat} {Pre : Pt → Array Value → Prop} {Post : Pt → Array Value → Option Value → Pt → Prop} {PostX : Pt → Array Value → Addr → Pt → Prop} (hK : vx_Back l R p e below s args y 3 W9 Pre Post PostX)
    {g : JFrame} (hg : g.method = m) (hsize : g.locals.size = c.maxLocals) {argsL rest : List Value} (hlen : ∀ sig, parseMethodDescriptor y.desc = some sig → argsL.length = sig.parameters.length)
    (hstack : g.stack = argsL.reverse ++ rest) (hW : 2 * g.monitorRoom + (rest.map fun v => v.category).sum ≤ W9) (hdg : decode c.code g.pc = .ok (.invokestatic index, 3))
    (hpre : ∀ vm₁, s.WarmedH vm₁ → Pre ⟨T.setVm vm₁, locs, cells, slots⟩ argsL.toArray) :
    (∃ (v : Option Value) (vm₁ : Vm) (B : Pt), s.WarmedH vm₁ ∧ Stand p l e R s m args below meth c B.U B.locs B.cells B.slots ∧ Post ⟨T.setVm vm₁, locs, cells, slots⟩ argsL.toArray v B ∧
      ∀ target, Steps p.tables e below (B.U.setTop { g with pc := g.pc + 3, stack := v.toList ++ rest }) target → Steps p.tables e below (T.setTop g) target) ∨
    (∃ (q : Addr) (vm₁ : Vm) (B : Pt), s.WarmedH vm₁ ∧ Stand p l e R s m args below meth c B.U B.locs B.cells B.slots ∧ PostX ⟨T.setVm vm₁, locs, cells, slots⟩ argsL.toArray q B ∧
      Steps p.tables e below (T.setTop g) ((B.U.setTop { g with stack := rest }).pushFrame (.throwing q))) := by
  obtain ⟨mk, methM, cM, hnamed, hmethM, -, -, -, -, -, -, hsigM⟩ := Cond.codeWith_spec hcode
  have hstatic : methM.isStatic = true := Cond.static_spec hnamed hmethM hstat
  obtain ⟨kP, hkP, -⟩ := className_of_methodNamed hnamed
  have hinitP : kP.init = .initialized := Cond.initialized_spec (findClass_of_methodNamed hnamed) hkP hinit
  obtain ⟨vm₁, X₁, hstep₁⟩ := X.invokestatic hexec hown hlink hnamed hmethM hstatic hkP hinitP hy (g := g) hg (argsL := argsL) (rest := rest) (hlen _ hsigM) hstack hdg
  rcases hK m meth c ⟨T.setVm vm₁, locs, cells, slots⟩ { g with stack := rest } (.invokestatic index) mk argsL.toArray X₁ hg hsize hdg hW (X₁.named hnamed) (hpre vm₁ X₁.warmed) with ⟨v, B, X', hpost, hsteps⟩ | ⟨q, B, X', hpost, hsteps⟩
  · exact Or.inl ⟨v, vm₁, B, X₁.warmed, X', hpost, fun target h => hstep₁ _ fun acts => by rw [doInvoke_state]; exact hsteps.trans h⟩
  · exact Or.inr ⟨q, vm₁, B, X₁.warmed, X', hpost, hstep₁ _ fun acts => by rw [doInvoke_state]; exact hsteps⟩
theorem vx_callVW (X : Stand p l e R s m args below meth c T locs cells slots) (hexec : p.tables.exec = Jvm.exec) {own C : String} {index : Nat} {y : MethodName} {bytes : ByteArray} {maxL : Nat} {ret : Option FieldType} {hh : List (Nat × Nat × Nat × Nat)}
    (hown : s.vm.findClass own = some m.cls) (hlink : (Cond.methodLink own index y).before args s = true) (hinst : (Cond.instanceMethod y).before args s = true) (hsel : (Cond.selects C y y).before args s = true)
    (hcode : (Cond.codeWith y bytes maxL ret hh).before args s = true) (hy : y.cls ≠ "java/lang/invoke/MethodHandle" ∧ y.cls ≠ "java/lang/invoke/VarHandle")
    {W9 : Nat} {Pre : Pt → Array Value → Prop} {Post : Pt → Array Value → Option Value → Pt → Prop} (hK : Back l R p e below s args y 3 W9 Pre Post)
    {b : Addr} {cellB : Cell} (hcell : T.heap[b]? = some cellB) (hobj : cellB.vm.isStatics = false) (hcls : s.vm.findClass C = some cellB.cls)
    {g : JFrame} (hg : g.method = m) (hsize : g.locals.size = c.maxLocals) {argsL rest : List Value} (hlen : ∀ sig, parseMethodDescriptor y.desc = some sig → argsL.length = sig.parameters.length)
    (hstack : g.stack = argsL.reverse ++ .ref b :: rest) (hW : 2 * g.monitorRoom + (rest.map fun v => v.category).sum ≤ W9) (hdg : decode c.code g.pc = .ok (.invokevirtual index, 3))
    (hpre : ∀ vm₁, s.WarmedH vm₁ → Pre ⟨T.setVm vm₁, locs, cells, slots⟩ (Value.ref b :: argsL).toArray) :
    ∃ (v : Option Value) (vm₁ : Vm) (B : Pt), s.WarmedH vm₁ ∧ Stand p l e R s m args below meth c B.U B.locs B.cells B.slots ∧ Post ⟨T.setVm vm₁, locs, cells, slots⟩ (Value.ref b :: argsL).toArray v B ∧
      ∀ target, Steps p.tables e below (B.U.setTop { g with pc := g.pc + 3, stack := v.toList ++ rest }) target → Steps p.tables e below (T.setTop g) target := by
  obtain ⟨mk, methM, hnamed, hmethM, hstM, habM⟩ := Cond.instanceMethod_spec hinst
  obtain ⟨m8, methM', cM, hn8, hmethM', -, -, -, -, -, -, hsigM⟩ := Cond.codeWith_spec hcode
  cases Option.some.inj (hn8.symm.trans hnamed)
  cases hmethM.symm.trans hmethM'
  obtain ⟨c2, r2, m2, q1, q2, q3, q4, kP, hkP, hkPi⟩ := Cond.selects_spec hsel
  cases hcls.symm.trans q1
  cases (State.methodFound?_of_named hnamed hy).symm.trans q2
  cases hnamed.symm.trans q3
  have hselP : selectMethod e.platform s.vm cellB.cls mk = .method mk := by rw [Launch.admits_selectMethod X.admits]; exact q4
  obtain ⟨vm₁, X₁, hstep₁⟩ := X.invokevirtual hexec hown hlink hnamed hmethM hstM hkP hkPi hy (a := b) (cell := cellB) hcell
    (fun z h => by rw [h] at hobj; cases hobj) hselP hmethM habM hkP hkPi (g := g) hg (argsL := argsL) (rest := rest) (hlen _ hsigM) hstack hdg
  obtain ⟨v, B, X', hpost, hsteps⟩ := hK m meth c ⟨T.setVm vm₁, locs, cells, slots⟩ { g with stack := rest } (.invokevirtual index) mk (Value.ref b :: argsL).toArray X₁ hg hsize hdg hW (X₁.named hnamed) (hpre vm₁ X₁.warmed)
  exact ⟨v, vm₁, B, X₁.warmed, X', hpost, fun target h => hstep₁ _ fun acts => by rw [doInvoke_state]; exact hsteps.trans h⟩
abbrev vx_CVW (R : Room) (s : State) (args : Array Value) (own C : String) (index : Nat) (y : MethodName) (bytes : ByteArray) (maxL : Nat) (ret : Option FieldType) (hh : List (Nat × Nat × Nat × Nat)) (ws : List Cond) (rm : Room) (mc ms n : Nat) : Prop :=
  (rm.cells = mc ∧ rm.slots = ms ∧ rm.frames + 1 ≤ R.frames ∧ 8 + (maxL + 11) + rm.locals ≤ R.locals ∧ (∀ w ∈ ws, ∀ (a' : Array Value) (U : State), s.WarmedH U.vm → w.before a' U = true) ∧ Cond.codeWith y bytes maxL ret hh ∈ ws) ∧
  (Cond.codeWith y bytes maxL ret hh).before args s = true ∧ (Cond.initialized y.cls).before args s = true ∧ (y.cls ≠ "java/lang/invoke/MethodHandle" ∧ y.cls ≠ "java/lang/invoke/VarHandle") ∧
  (∀ sig, parseMethodDescriptor y.desc = some sig → n = sig.parameters.length) ∧ (Cond.methodLink own index y).before args s = true ∧ (Cond.instanceMethod y).before args s = true ∧ (Cond.selects C y y).before args s = true
theorem vx_cwVW {own C : String} {index maxL mc ms : Nat} {y : MethodName} {bytes : ByteArray} {ret : Option FieldType} {hh : List (Nat × Nat × Nat × Nat)} {Ts ws ws' : List Cond} {rm : Room} (n : Nat) (ht : ∀ w ∈ Ts, w.before args s = true) (hT : GoodIn Ts (wsV own index C y ws)) (hw : ws = Cond.codeWith y bytes maxL ret hh :: ws') (hrc : rm.cells = mc) (hrs : rm.slots = ms)
    (hd : y.cls = C ∧ y.cls ≠ "java/lang/invoke/MethodHandle" ∧ y.cls ≠ "java/lang/invoke/VarHandle" ∧ (parseMethodDescriptor y.desc).map (fun d => d.parameters.length) = some n) (hR : rm.frames + 1 ≤ R.frames ∧ 8 + (maxL + 11) + rm.locals ≤ R.locals) :
    vx_CVW R s args own C index y bytes maxL ret hh ws rm mc ms n := by
  obtain ⟨hC, hd⟩ := hd
  subst hC
  have ok : ∀ w ∈ wsV own index y.cls y ws, w.before args s = true := fun w h => ht w (hT w h).1
  have hG : GoodIn Ts ws := fun w h => hT w (by unfold wsV; exact List.mem_append_right _ h)
  have hc : Cond.codeWith y bytes maxL ret hh ∈ ws := by rw [hw]; exact List.mem_cons_self
  refine ⟨⟨hrc, hrs, hR.1, hR.2, pay_in ht hG, hc⟩, ht _ (hG _ hc).1, ok _ (by simp [wsV]), ⟨hd.1, hd.2.1⟩, fun sig h => ?_, ok _ (by simp [wsV]), ok _ (by simp [wsV]), ok _ (by simp [wsV])⟩
  have h2 := hd.2.2
  rw [h] at h2
  exact (Option.some.inj h2).symm
theorem vx_runVW {y : MethodName} {bytes cc : ByteArray} {maxL nL mc ms n index : Nat} {ret : Option FieldType} {hh : List (Nat × Nat × Nat × Nat)} {ws : List Cond} {rm : Room} {Pc : Array Value → State → Prop} {Qc : Array Value → State → Outcome → State → Prop} {free : Addr → Prop} {Ts : List Cond} {own C : String} {b : Addr} {As rest : List Value} {g : JFrame}
    (S : CallFix p m c cc nL s args Ts own) (hM : Met l y ws rm Pc Qc mc ms free) (cw : vx_CVW R s args own C index y bytes maxL ret hh ws rm mc ms n) (hp : PreV s H C b Pc As)
    (hg : g.method = m) (hn : As.length = n) (hsize : g.locals.size = nL) (hstack : g.stack = As.reverse ++ .ref b :: rest) (hW : 2 * g.monitorRoom + (rest.map fun v => v.category).sum ≤ 8) (hdg : decode cc g.pc = .ok (.invokevirtual index, 3)) (hf : cells + mc ≤ R.cells ∧ slots + ms ≤ R.slots) :
    va_Run p l e R s m args below meth c H locs cells slots mc ms g rest (Qc (Value.ref b :: As).toArray) free := by
  obtain ⟨⟨hrc, hrs, hfr, hlo, hws, hcw⟩, hcode, hini, hy, hlen, hl, hin, hse⟩ := cw
  have hK : Back l R p e below s args y 3 8 (PreOf R mc ms Pc) (PostOf Qc mc ms free) := va_backW (hh := hh) (bytes := bytes) (maxL := maxL) (ret := ret) hM hp.1 hrc hrs hfr hlo hws hcw (fun a' U hW => word_at hW (Or.inl (by first | rfl | simp [Cond.onTables, Cond.keeps, Cond.steady])) hini)
  obtain ⟨hx, hb, hml, ho, -⟩ := S
  obtain ⟨-, ⟨cellB, hcB, hoB, hclB⟩, hPc⟩ := hp
  intro T hT X
  obtain ⟨v, vm₁, ⟨U', l2, c2, s2⟩, hW₁, X', ⟨g', mk, t, L, e1, e2, hq, h1, hL, h2, h3⟩, st⟩ := vx_callVW X hx (C := C) (hh := hh) (bytes := bytes) (maxL := maxL) (ret := ret) ho hl hin hse hcode hy hK (by rw [hT]; exact hcB) hoB hclB hg (hsize.trans hml.symm) (argsL := As) (rest := rest) (fun sig h => hn.trans (hlen sig h)) hstack hW (by rw [hb]; exact hdg)
    (fun vm₁ hW₁ => ⟨hf.1, hf.2, hPc (T.setVm vm₁) hT hW₁⟩)
  dsimp only [Pt.U, Pt.locs, Pt.cells, Pt.slots] at X' e1 e2 h1 h2 h3 st
  subst h1; subst h2; subst h3
  exact ⟨v, (T.setVm vm₁).calling g' mk (Value.ref b :: As).toArray, t, U', L, hT, X', hL, e1, e2, hq, st⟩
section
variable {y : MethodName} {bytes cc : ByteArray} {maxL nL mc ms n index : Nat} {ret : Option FieldType} {ws : List Cond} {rm : Room} {Pc : Array Value → State → Prop} {Qc : Array Value → State → Outcome → State → Prop} {XC : String → State → State → Prop} {free : Addr → Prop} {Ts : List Cond} {own C : String} {b : Addr} {As rest : List Value} {g : JFrame}
theorem vx_runVX {hh : List (Nat × Nat × Nat × Nat)} (S : CallFix p m c cc nL s args Ts own) (hM : vx_Met l y ws rm Pc Qc XC mc ms free) (cw : vx_CVW R s args own C index y bytes maxL ret hh ws rm mc ms n) (hp : PreV s H C b Pc As)
    (hg : g.method = m) (hn : As.length = n) (hsize : g.locals.size = nL) (hstack : g.stack = As.reverse ++ .ref b :: rest) (hW : 2 * g.monitorRoom + (rest.map fun v => v.category).sum ≤ 8) (hdg : decode cc g.pc = .ok (.invokevirtual index, 3)) (hf : cells + mc ≤ R.cells ∧ slots + ms ≤ R.slots) :
    vx_Run p l e R s m args below meth c H locs cells slots mc ms g rest (Qc (Value.ref b :: As).toArray) XC free := by
  obtain ⟨⟨hrc, hrs, hfr, hlo, hws, hcw⟩, hcode, hini, hy, hlen, hl, hin, hse⟩ := cw
  have hK : vx_Back l R p e below s args y 3 8 (PreOf R mc ms Pc) (PostOf Qc mc ms free) (vx_Post XC mc ms free) := vx_backW (hh := hh) (bytes := bytes) (maxL := maxL) (ret := ret) hM hp.1 hrc hrs hfr hlo hws hcw (fun a' U hW => word_at hW (Or.inl (by first | rfl | simp [Cond.onTables, Cond.keeps, Cond.steady])) hini)
  obtain ⟨hx, hb, hml, ho, -⟩ := S
  obtain ⟨-, ⟨cellB, hcB, hoB, hclB⟩, hPc⟩ := hp
  intro T hT X
  rcases vx_callVX X hx (C := C) (hh := hh) (bytes := bytes) (maxL := maxL) (ret := ret) ho hl hin hse hcode hy hK (by rw [hT]; exact hcB) hoB hclB hg (hsize.trans hml.symm) (argsL := As) (rest := rest) (fun sig h => hn.trans (hlen sig h)) hstack hW (by rw [hb]; exact hdg)
    (fun vm₁ hW₁ => ⟨hf.1, hf.2, hPc (T.setVm vm₁) hT hW₁⟩) with ⟨v, vm₁, ⟨U', l2, c2, s2⟩, hW₁, X', ⟨g', mk, t, L, e1, e2, hq, h1, hL, h2, h3⟩, st⟩ | ⟨q, vm₁, ⟨U', l2, c2, s2⟩, hW₁, X', ⟨g', mk, t, L, E, ce, e1, e2, hq, hce, hcv, hcl, h1, hL, h2, h3⟩, st⟩
  · dsimp only [Pt.U, Pt.locs, Pt.cells, Pt.slots] at X' e1 e2 h1 h2 h3 st
    subst h1; subst h2; subst h3
    exact Or.inl ⟨v, (T.setVm vm₁).calling g' mk (Value.ref b :: As).toArray, t, U', L, hT, X', hL, e1, e2, hq, st⟩
  · dsimp only [Pt.U, Pt.locs, Pt.cells, Pt.slots] at X' e1 e2 h1 h2 h3 st hcl
    subst h1; subst h2; subst h3
    exact Or.inr ⟨q, (T.setVm vm₁).calling g' mk (Value.ref b :: As).toArray, t, U', L, E, ce, hT, X', hL, e1, e2, hq, hce, hcv, vx_cls hW₁ hcl, st⟩
theorem vx_runSX {hh : List (Nat × Nat × Nat × Nat)} (S : CallFix p m c cc nL s args Ts own) (hM : vx_Met l y ws rm Pc Qc XC mc ms free) (cw : vx_CSW R s args own index y bytes maxL ret hh ws rm mc ms n) (hp : PreS s H Pc As)
    (hg : g.method = m) (hn : As.length = n) (hsize : g.locals.size = nL) (hstack : g.stack = As.reverse ++ rest) (hW : 2 * g.monitorRoom + (rest.map fun v => v.category).sum ≤ 8) (hdg : decode cc g.pc = .ok (.invokestatic index, 3)) (hf : cells + mc ≤ R.cells ∧ slots + ms ≤ R.slots) :
    vx_Run p l e R s m args below meth c H locs cells slots mc ms g rest (Qc As.toArray) XC free := by
  obtain ⟨⟨hrc, hrs, hfr, hlo, hws, hcw⟩, hcode, hini, hy, hlen, hl, hstt⟩ := cw
  have hK : vx_Back l R p e below s args y 3 8 (PreOf R mc ms Pc) (PostOf Qc mc ms free) (vx_Post XC mc ms free) := vx_backW (hh := hh) (bytes := bytes) (maxL := maxL) (ret := ret) hM hp.1 hrc hrs hfr hlo hws hcw (fun a' U hW => word_at hW (Or.inl (by first | rfl | simp [Cond.onTables, Cond.keeps, Cond.steady])) hini)
  obtain ⟨hx, hb, hml, ho, -⟩ := S
  intro T hT X
  rcases vx_callSX X hx (hh := hh) (bytes := bytes) (maxL := maxL) (ret := ret) ho hl hstt hini hcode hy hK hg (hsize.trans hml.symm) (argsL := As) (rest := rest) (fun sig h => hn.trans (hlen sig h)) hstack hW (by rw [hb]; exact hdg)
    (fun vm₁ hW₁ => ⟨hf.1, hf.2, hp.2 (T.setVm vm₁) hT hW₁⟩) with ⟨v, vm₁, ⟨U', l2, c2, s2⟩, hW₁, X', ⟨g', mk, t, L, e1, e2, hq, h1, hL, h2, h3⟩, st⟩ | ⟨q, vm₁, ⟨U', l2, c2, s2⟩, hW₁, X', ⟨g', mk, t, L, E, ce, e1, e2, hq, hce, hcv, hcl, h1, hL, h2, h3⟩, st⟩
  · dsimp only [Pt.U, Pt.locs, Pt.cells, Pt.slots] at X' e1 e2 h1 h2 h3 st
    subst h1; subst h2; subst h3
    exact Or.inl ⟨v, (T.setVm vm₁).calling g' mk As.toArray, t, U', L, hT, X', hL, e1, e2, hq, st⟩
  · dsimp only [Pt.U, Pt.locs, Pt.cells, Pt.slots] at X' e1 e2 h1 h2 h3 st hcl
    subst h1; subst h2; subst h3
    exact Or.inr ⟨q, (T.setVm vm₁).calling g' mk As.toArray, t, U', L, E, ce, hT, X', hL, e1, e2, hq, hce, hcv, vx_cls hW₁ hcl, st⟩
end
end VXH
theorem vx_ofWH {l : Launch} {y : MethodName} {ws ws' : List Cond} {rm : Room} {Pc : Array Value → State → Prop} {Qc : Array Value → State → Outcome → State → Prop} {XC : String → State → State → Prop} {mc ms : Nat} {free : Addr → Prop} {cc : ByteArray} {maxL : Nat} {ret : Option FieldType} {hh : List (Nat × Nat × Nat × Nat)}
    (hy : plainName y.cls = true) (hw : ws = Cond.codeWith y cc maxL ret hh :: ws')
    (body : ∀ p e s m args below meth c s₁, BodyLoose p l y (headSpec ws rm) cc maxL ret e s m args below meth c s₁ → c.maxLocals = maxL → Pc args s →
      W p l e (headSpec ws rm).room s m args below meth c s.heap [] 0 0 (vx_MQ below Qc XC args s mc ms free) (entryFrame m args maxL)) : vx_Met l y ws rm Pc Qc XC mc ms free := by
  refine MetFree.of_bodyS (code := cc) (maxLocals := maxL) (ret := ret) hy ?_ ?_
  · intro args s m h hn
    obtain ⟨m9, meth, c, hn9, h1, h2, h3, h4, -, h5, h6, -⟩ := Cond.codeWith_spec (atoms_spec (ws := ws) h _ (by rw [hw]; exact List.mem_cons_self))
    cases hn.symm.trans hn9
    exact ⟨meth, c, h1, h2, h3, h4, h5, h6⟩
  · intro p e s m args below meth c s₁ B hml hP _
    have hh0 : s₁.heap = s.heap := by rw [B.state]; rfl
    obtain ⟨t, a1, o, b1, b2, b3⟩ := body p e s m args below meth c s₁ B hml hP s₁ hh0 (Stand.of_body B)
    exact ⟨t, o, a1, b1, b2, b3⟩
/-! ===== END ===== -/
end
section
def RX0 : String := "TestSlots$Examiner"
def TX0 : u_T := fun k => match k with
  | 0 => ("TestSlots$Examiner", "testsOnRoute", "[I", true)
  | 1 => ("TestSlots$Examiner", "passed", "I", false)
  | _ => ("TestSlots$Examiner", "cancelled", "I", false)
def tyX0 : Nat → FieldType := fun k => match k with
  | 0 => .array .int
  | 1 => .int
  | _ => .int
abbrev wsX00 : List Cond := u_ws RX0 TX0 3
theorem nmX0 : ∀ a, a < 3 → ∀ b, b < 3 → a ≠ b → (TX0 a).2.1 ≠ (TX0 b).2.1 := by decide +kernel
theorem tyX0_ok : ∀ k, k < 3 → parseFieldDescriptor (TX0 k).2.2.1 = some (tyX0 k) := by decide +kernel
abbrev cX0_init : ByteArray := prog_2_method_1_code
def yX0_init : MethodName := ⟨RX0, "<init>", "()V"⟩
abbrev cX0_copyFrom : ByteArray := prog_2_method_2_code
def yX0_copyFrom : MethodName := ⟨RX0, "copyFrom", "(LTestSlots$Examiner;)V"⟩
abbrev cX0_tests : ByteArray := prog_2_method_3_code
def yX0_tests : MethodName := ⟨RX0, "tests", "()I"⟩
abbrev cX0_leastUsedRouteBut : ByteArray := prog_2_method_4_code
def yX0_leastUsedRouteBut : MethodName := ⟨RX0, "leastUsedRouteBut", "(I)I"⟩
def RX1 : String := "TestSlots$Office"
def TX1 : u_T := fun k => match k with
  | 0 => ("TestSlots$Office", "day", "I", false)
  | 1 => ("TestSlots$Office", "examinerCount", "I", false)
  | 2 => ("TestSlots$Office", "pupilCount", "I", false)
  | 3 => ("TestSlots$Office", "beginnings", "I", false)
  | 4 => ("TestSlots$Office", "stayedAway", "I", false)
  | 5 => ("TestSlots$Office", "settings", "[I", true)
  | 6 => ("TestSlots$Office", "diary", "[I", true)
  | 7 => ("TestSlots$Office", "pupils", "[LTestSlots$Pupil;", true)
  | 8 => ("TestSlots$Office", "examiners", "[LTestSlots$Examiner;", true)
  | _ => ("TestSlots$Office", "queue", "[I", true)
def tyX1 : Nat → FieldType := fun k => match k with
  | 0 => .int
  | 1 => .int
  | 2 => .int
  | 3 => .int
  | 4 => .int
  | 5 => .array .int
  | 6 => .array .int
  | 7 => .array (.object "TestSlots$Pupil")
  | 8 => .array (.object "TestSlots$Examiner")
  | _ => .array .int
abbrev wsX10 : List Cond := u_ws RX1 TX1 10
theorem nmX1 : ∀ a, a < 10 → ∀ b, b < 10 → a ≠ b → (TX1 a).2.1 ≠ (TX1 b).2.1 := by decide +kernel
theorem tyX1_ok : ∀ k, k < 10 → parseFieldDescriptor (TX1 k).2.2.1 = some (tyX1 k) := by decide +kernel
abbrev cX1_init : ByteArray := prog_3_method_1_code
def yX1_init : MethodName := ⟨RX1, "<init>", "()V"⟩
abbrev cX1_copyFrom : ByteArray := prog_3_method_2_code
def yX1_copyFrom : MethodName := ⟨RX1, "copyFrom", "(LTestSlots$Office;)V"⟩
abbrev cX1_hasPupil : ByteArray := prog_3_method_3_code
def yX1_hasPupil : MethodName := ⟨RX1, "hasPupil", "(I)Z"⟩
abbrev cX1_hasExaminer : ByteArray := prog_3_method_4_code
def yX1_hasExaminer : MethodName := ⟨RX1, "hasExaminer", "(I)Z"⟩
abbrev cX1_takeOnExaminer : ByteArray := prog_3_method_5_code
def yX1_takeOnExaminer : MethodName := ⟨RX1, "takeOnExaminer", "()I"⟩
abbrev cX1_takeOnPupil : ByteArray := prog_3_method_6_code
def yX1_takeOnPupil : MethodName := ⟨RX1, "takeOnPupil", "()I"⟩
abbrev cX1_mayAsk : ByteArray := prog_3_method_7_code
def yX1_mayAsk : MethodName := ⟨RX1, "mayAsk", "(I)Z"⟩
abbrev cX1_letAsk : ByteArray := prog_3_method_8_code
def yX1_letAsk : MethodName := ⟨RX1, "letAsk", "(I)I"⟩
abbrev cX1_mayQuit : ByteArray := prog_3_method_9_code
def yX1_mayQuit : MethodName := ⟨RX1, "mayQuit", "(I)Z"⟩
abbrev cX1_letQuit : ByteArray := prog_3_method_10_code
def yX1_letQuit : MethodName := ⟨RX1, "letQuit", "(I)I"⟩
abbrev cX1_cancelMorning : ByteArray := prog_3_method_11_code
def yX1_cancelMorning : MethodName := ⟨RX1, "cancelMorning", "(II)I"⟩
abbrev cX1_mayBeTested : ByteArray := prog_3_method_12_code
def yX1_mayBeTested : MethodName := ⟨RX1, "mayBeTested", "(I)Z"⟩
abbrev cX1_holdTest : ByteArray := prog_3_method_13_code
def yX1_holdTest : MethodName := ⟨RX1, "holdTest", "(IZ)I"⟩
abbrev cX1_mayGoOn : ByteArray := prog_3_method_14_code
def yX1_mayGoOn : MethodName := ⟨RX1, "mayGoOn", "()Z"⟩
abbrev cX1_goOn : ByteArray := prog_3_method_15_code
def yX1_goOn : MethodName := ⟨RX1, "goOn", "()I"⟩
abbrev cX1_freeSlotsOf : ByteArray := prog_3_method_16_code
def yX1_freeSlotsOf : MethodName := ⟨RX1, "freeSlotsOf", "(II)V"⟩
abbrev cX1_beginToWait : ByteArray := prog_3_method_17_code
def yX1_beginToWait : MethodName := ⟨RX1, "beginToWait", "(LTestSlots$Pupil;)V"⟩
abbrev cX1_giveSlotsOut : ByteArray := prog_3_method_18_code
def yX1_giveSlotsOut : MethodName := ⟨RX1, "giveSlotsOut", "()V"⟩
abbrev cX1_placeInQueue : ByteArray := prog_3_method_19_code
def yX1_placeInQueue : MethodName := ⟨RX1, "placeInQueue", "(I)I"⟩
abbrev cX1_cellOf : ByteArray := prog_3_method_20_code
def yX1_cellOf : MethodName := ⟨RX1, "cellOf", "(I)I"⟩
abbrev cX1_earliestCell : ByteArray := prog_3_method_21_code
def yX1_earliestCell : MethodName := ⟨RX1, "earliestCell", "(I)I"⟩
abbrev cX1_couldCome : ByteArray := prog_3_method_22_code
def yX1_couldCome : MethodName := ⟨RX1, "couldCome", "(II)Z"⟩
abbrev cX1_mayMeet : ByteArray := prog_3_method_23_code
def yX1_mayMeet : MethodName := ⟨RX1, "mayMeet", "(II)Z"⟩
abbrev cX1_routeFor : ByteArray := prog_3_method_24_code
def yX1_routeFor : MethodName := ⟨RX1, "routeFor", "(II)I"⟩
abbrev cX1_mostWithSlotsOf : ByteArray := prog_3_method_25_code
def yX1_mostWithSlotsOf : MethodName := ⟨RX1, "mostWithSlotsOf", "(I)I"⟩
abbrev cX1_freeSlotsOfGroup : ByteArray := prog_3_method_26_code
def yX1_freeSlotsOfGroup : MethodName := ⟨RX1, "freeSlotsOfGroup", "(II)I"⟩
abbrev cX1_pupilsNotKeptTo : ByteArray := prog_3_method_27_code
def yX1_pupilsNotKeptTo : MethodName := ⟨RX1, "pupilsNotKeptTo", "(II)I"⟩
abbrev cX1_mayMeetOutside : ByteArray := prog_3_method_28_code
def yX1_mayMeetOutside : MethodName := ⟨RX1, "mayMeetOutside", "(II)Z"⟩
abbrev cX1_isInGroup : ByteArray := prog_3_method_29_code
def yX1_isInGroup : MethodName := ⟨RX1, "isInGroup", "(II)Z"⟩
abbrev cX1_pupilProperty : ByteArray := prog_3_method_30_code
def yX1_pupilProperty : MethodName := ⟨RX1, "pupilProperty", "(II)I"⟩
abbrev cX1_examinerProperty : ByteArray := prog_3_method_31_code
def yX1_examinerProperty : MethodName := ⟨RX1, "examinerProperty", "(II)I"⟩
abbrev cX1_cellsOfExaminer : ByteArray := prog_3_method_32_code
def yX1_cellsOfExaminer : MethodName := ⟨RX1, "cellsOfExaminer", "(II)I"⟩
abbrev cX1_number : ByteArray := prog_3_method_33_code
def yX1_number : MethodName := ⟨RX1, "number", "(I)I"⟩
abbrev cX1_pupilsWho : ByteArray := prog_3_method_34_code
def yX1_pupilsWho : MethodName := ⟨RX1, "pupilsWho", "(I)I"⟩
abbrev cX1_testsSoFar : ByteArray := prog_3_method_35_code
def yX1_testsSoFar : MethodName := ⟨RX1, "testsSoFar", "()I"⟩
abbrev cX1_passedSoFar : ByteArray := prog_3_method_36_code
def yX1_passedSoFar : MethodName := ⟨RX1, "passedSoFar", "()I"⟩
abbrev cX1_movedSoFar : ByteArray := prog_3_method_37_code
def yX1_movedSoFar : MethodName := ⟨RX1, "movedSoFar", "()I"⟩
abbrev cX1_moneyTaken : ByteArray := prog_3_method_38_code
def yX1_moneyTaken : MethodName := ⟨RX1, "moneyTaken", "()I"⟩
abbrev cX1_freeSlots : ByteArray := prog_3_method_39_code
def yX1_freeSlots : MethodName := ⟨RX1, "freeSlots", "()I"⟩
abbrev cX1_daysToAllSlots : ByteArray := prog_3_method_40_code
def yX1_daysToAllSlots : MethodName := ⟨RX1, "daysToAllSlots", "()I"⟩
def RX2 : String := "TestSlots$OrderText"
def TX2 : u_T := fun k => match k with
  | 0 => ("TestSlots$OrderText", "codes", "[I", true)
  | 1 => ("TestSlots$OrderText", "length", "I", false)
  | 2 => ("TestSlots$OrderText", "at", "I", false)
  | 3 => ("TestSlots$OrderText", "orders", "I", false)
  | 4 => ("TestSlots$OrderText", "kinds", "[I", true)
  | 5 => ("TestSlots$OrderText", "numbers", "[I", true)
  | _ => ("TestSlots$OrderText", "days", "[I", true)
def tyX2 : Nat → FieldType := fun k => match k with
  | 0 => .array .int
  | 1 => .int
  | 2 => .int
  | 3 => .int
  | 4 => .array .int
  | 5 => .array .int
  | _ => .array .int
abbrev wsX20 : List Cond := u_ws RX2 TX2 7
theorem nmX2 : ∀ a, a < 7 → ∀ b, b < 7 → a ≠ b → (TX2 a).2.1 ≠ (TX2 b).2.1 := by decide +kernel
theorem tyX2_ok : ∀ k, k < 7 → parseFieldDescriptor (TX2 k).2.2.1 = some (tyX2 k) := by decide +kernel
abbrev cX2_init : ByteArray := prog_4_method_1_code
def yX2_init : MethodName := ⟨RX2, "<init>", "()V"⟩
def RX3 : String := "TestSlots$Pupil"
def TX3 : u_T := fun k => match k with
  | 0 => ("TestSlots$Pupil", "status", "I", false)
  | 1 => ("TestSlots$Pupil", "failed", "I", false)
  | 2 => ("TestSlots$Pupil", "testableFrom", "I", false)
  | 3 => ("TestSlots$Pupil", "latestRoute", "I", false)
  | 4 => ("TestSlots$Pupil", "latestExaminer", "I", false)
  | 5 => ("TestSlots$Pupil", "moved", "I", false)
  | 6 => ("TestSlots$Pupil", "began", "I", false)
  | 7 => ("TestSlots$Pupil", "paid", "I", false)
  | _ => ("TestSlots$Pupil", "fee", "I", false)
def tyX3 : Nat → FieldType := fun k => match k with
  | 0 => .int
  | 1 => .int
  | 2 => .int
  | 3 => .int
  | 4 => .int
  | 5 => .int
  | 6 => .int
  | 7 => .int
  | _ => .int
abbrev wsX30 : List Cond := u_ws RX3 TX3 9
theorem nmX3 : ∀ a, a < 9 → ∀ b, b < 9 → a ≠ b → (TX3 a).2.1 ≠ (TX3 b).2.1 := by decide +kernel
theorem tyX3_ok : ∀ k, k < 9 → parseFieldDescriptor (TX3 k).2.2.1 = some (tyX3 k) := by decide +kernel
abbrev cX3_init : ByteArray := prog_5_method_1_code
def yX3_init : MethodName := ⟨RX3, "<init>", "()V"⟩
abbrev cX3_copyFrom : ByteArray := prog_5_method_2_code
def yX3_copyFrom : MethodName := ⟨RX3, "copyFrom", "(LTestSlots$Pupil;)V"⟩
abbrev cX3_comesAheadOf : ByteArray := prog_5_method_3_code
def yX3_comesAheadOf : MethodName := ⟨RX3, "comesAheadOf", "(LTestSlots$Pupil;)Z"⟩
def RX4 : String := "TestSlots"
def TX4 : u_T := fun k => match k with
  | 0 => ("TestSlots", "office", "LTestSlots$Office;", true)
  | 1 => ("TestSlots", "trial", "LTestSlots$Office;", true)
  | 2 => ("TestSlots", "saves", "[LTestSlots$Office;", true)
  | 3 => ("TestSlots", "saved", "I", false)
  | _ => ("TestSlots", "text", "LTestSlots$OrderText;", true)
def tyX4 : Nat → FieldType := fun k => match k with
  | 0 => .object "TestSlots$Office"
  | 1 => .object "TestSlots$Office"
  | 2 => .array (.object "TestSlots$Office")
  | 3 => .int
  | _ => .object "TestSlots$OrderText"
abbrev wsX40 : List Cond := u_ws RX4 TX4 5
theorem nmX4 : ∀ a, a < 5 → ∀ b, b < 5 → a ≠ b → (TX4 a).2.1 ≠ (TX4 b).2.1 := by decide +kernel
theorem tyX4_ok : ∀ k, k < 5 → parseFieldDescriptor (TX4 k).2.2.1 = some (tyX4 k) := by decide +kernel
abbrev cX4_init : ByteArray := prog_1_method_1_code
def yX4_init : MethodName := ⟨RX4, "<init>", "()V"⟩
abbrev cX4_addExaminer : ByteArray := prog_1_method_2_code
def yX4_addExaminer : MethodName := ⟨RX4, "addExaminer", "()I"⟩
abbrev cX4_addPupil : ByteArray := prog_1_method_3_code
def yX4_addPupil : MethodName := ⟨RX4, "addPupil", "()I"⟩
abbrev cX4_ask : ByteArray := prog_1_method_4_code
def yX4_ask : MethodName := ⟨RX4, "ask", "(I)I"⟩
abbrev cX4_quit : ByteArray := prog_1_method_5_code
def yX4_quit : MethodName := ⟨RX4, "quit", "(I)I"⟩
abbrev cX4_cancel : ByteArray := prog_1_method_6_code
def yX4_cancel : MethodName := ⟨RX4, "cancel", "(II)I"⟩
abbrev cX4_test : ByteArray := prog_1_method_7_code
def yX4_test : MethodName := ⟨RX4, "test", "(IZ)I"⟩
abbrev cX4_next : ByteArray := prog_1_method_8_code
def yX4_next : MethodName := ⟨RX4, "next", "()I"⟩
abbrev cX4_set : ByteArray := prog_1_method_9_code
def yX4_set : MethodName := ⟨RX4, "set", "(II)I"⟩
abbrev cX4_undo : ByteArray := prog_1_method_14_code
def yX4_undo : MethodName := ⟨RX4, "undo", "()I"⟩
abbrev cX4_pupil : ByteArray := prog_1_method_15_code
def yX4_pupil : MethodName := ⟨RX4, "pupil", "(II)I"⟩
abbrev cX4_examiner : ByteArray := prog_1_method_16_code
def yX4_examiner : MethodName := ⟨RX4, "examiner", "(II)I"⟩
abbrev cX4_slot : ByteArray := prog_1_method_17_code
def yX4_slot : MethodName := ⟨RX4, "slot", "(III)I"⟩
abbrev cX4_count : ByteArray := prog_1_method_18_code
def yX4_count : MethodName := ⟨RX4, "count", "(I)I"⟩
abbrev cX4_setting : ByteArray := prog_1_method_19_code
def yX4_setting : MethodName := ⟨RX4, "setting", "(I)I"⟩
abbrev cX4_earliest : ByteArray := prog_1_method_20_code
def yX4_earliest : MethodName := ⟨RX4, "earliest", "(II)I"⟩
abbrev cX4_ifCancelled : ByteArray := prog_1_method_21_code
def yX4_ifCancelled : MethodName := ⟨RX4, "ifCancelled", "(III)I"⟩
abbrev cX4_ifTested : ByteArray := prog_1_method_22_code
def yX4_ifTested : MethodName := ⟨RX4, "ifTested", "(II)I"⟩
abbrev cX4_couldHave : ByteArray := prog_1_method_23_code
def yX4_couldHave : MethodName := ⟨RX4, "couldHave", "(I)I"⟩
abbrev cX4_isFromTo : ByteArray := prog_1_method_26_code
def yX4_isFromTo : MethodName := ⟨RX4, "isFromTo", "(III)Z"⟩
abbrev cX4_isSetting : ByteArray := prog_1_method_27_code
def yX4_isSetting : MethodName := ⟨RX4, "isSetting", "(I)Z"⟩
abbrev cX4_cellAt : ByteArray := prog_1_method_28_code
def yX4_cellAt : MethodName := ⟨RX4, "cellAt", "(III)I"⟩
abbrev cX4_daysTo : ByteArray := prog_1_method_29_code
def yX4_daysTo : MethodName := ⟨RX4, "daysTo", "(I)I"⟩
abbrev cX4_examinerAt : ByteArray := prog_1_method_30_code
def yX4_examinerAt : MethodName := ⟨RX4, "examinerAt", "(I)I"⟩
abbrev cX4_partOfCell : ByteArray := prog_1_method_31_code
def yX4_partOfCell : MethodName := ⟨RX4, "partOfCell", "(II)I"⟩
abbrev cX4_save : ByteArray := prog_1_method_32_code
def yX4_save : MethodName := ⟨RX4, "save", "()V"⟩
abbrev cX4_dropOldestSave : ByteArray := prog_1_method_33_code
def yX4_dropOldestSave : MethodName := ⟨RX4, "dropOldestSave", "()V"⟩
def RX5 : String := "TestSlotsModel"
def TX5 : u_T := fun k => match k with
  | _ => ("", "", "", false)
def tyX5 : Nat → FieldType := fun k => match k with
  | _ => .int
abbrev wsX50 : List Cond := u_ws RX5 TX5 0
theorem nmX5 : ∀ a, a < 0 → ∀ b, b < 0 → a ≠ b → (TX5 a).2.1 ≠ (TX5 b).2.1 := by decide +kernel
theorem tyX5_ok : ∀ k, k < 0 → parseFieldDescriptor (TX5 k).2.2.1 = some (tyX5 k) := by decide +kernel
def RJx145de : String := "java/io/Serializable"
def TJx145de : u_T := fun k => match k with
  | _ => ("", "", "", false)
def tyJx145de : Nat → FieldType := fun k => match k with
  | _ => .int
theorem nmJx145de : ∀ a, a < 0 → ∀ b, b < 0 → a ≠ b → (TJx145de a).2.1 ≠ (TJx145de b).2.1 := by decide +kernel
theorem tyJx145de_ok : ∀ k, k < 0 → parseFieldDescriptor (TJx145de k).2.2.1 = some (tyJx145de k) := by decide +kernel
def RJ9 : String := "java/lang/Math"
def TJ9 : u_T := fun k => match k with
  | _ => ("", "", "", false)
def tyJ9 : Nat → FieldType := fun k => match k with
  | _ => .int
abbrev wsJ90 : List Cond := u_ws RJ9 TJ9 0
theorem nmJ9 : ∀ a, a < 0 → ∀ b, b < 0 → a ≠ b → (TJ9 a).2.1 ≠ (TJ9 b).2.1 := by decide +kernel
theorem tyJ9_ok : ∀ k, k < 0 → parseFieldDescriptor (TJ9 k).2.2.1 = some (tyJ9 k) := by decide +kernel
abbrev cJ9_min_7cf53 : ByteArray := prog_12_method_69_code
def yJ9_min_7cf53 : MethodName := ⟨RJ9, "min", "(II)I"⟩
def RJ0 : String := "java/lang/String"
def TJ0 : u_T := fun k => match k with
  | _ => ("", "", "", false)
def tyJ0 : Nat → FieldType := fun k => match k with
  | _ => .int
abbrev wsJ00 : List Cond := u_ws RJ0 TJ0 0
theorem nmJ0 : ∀ a, a < 0 → ∀ b, b < 0 → a ≠ b → (TJ0 a).2.1 ≠ (TJ0 b).2.1 := by decide +kernel
theorem tyJ0_ok : ∀ k, k < 0 → parseFieldDescriptor (TJ0 k).2.2.1 = some (tyJ0 k) := by decide +kernel
def RJ10 : String := "java/lang/System"
def TJ10 : u_T := fun k => match k with
  | _ => ("", "", "", false)
def tyJ10 : Nat → FieldType := fun k => match k with
  | _ => .int
abbrev wsJ100 : List Cond := u_ws RJ10 TJ10 0
theorem nmJ10 : ∀ a, a < 0 → ∀ b, b < 0 → a ≠ b → (TJ10 a).2.1 ≠ (TJ10 b).2.1 := by decide +kernel
theorem tyJ10_ok : ∀ k, k < 0 → parseFieldDescriptor (TJ10 k).2.2.1 = some (tyJ10 k) := by decide +kernel
def RJ7 : String := "java/util/Arrays"
def TJ7 : u_T := fun k => match k with
  | _ => ("", "", "", false)
def tyJ7 : Nat → FieldType := fun k => match k with
  | _ => .int
abbrev wsJ70 : List Cond := u_ws RJ7 TJ7 0
theorem nmJ7 : ∀ a, a < 0 → ∀ b, b < 0 → a ≠ b → (TJ7 a).2.1 ≠ (TJ7 b).2.1 := by decide +kernel
theorem tyJ7_ok : ∀ k, k < 0 → parseFieldDescriptor (TJ7 k).2.2.1 = some (tyJ7 k) := by decide +kernel
abbrev cJ7_fill_53178 : ByteArray := prog_17_method_103_code
def yJ7_fill_53178 : MethodName := ⟨RJ7, "fill", "([II)V"⟩
def RL : String := "TestSlotsLaw"
abbrev cL_cell : ByteArray := method_2_code
def yL_cell : MethodName := ⟨RL, "cell", "([II)I"⟩
abbrev cL_low : ByteArray := method_3_code
def yL_low : MethodName := ⟨RL, "low", "(II)I"⟩
abbrev cL_does : ByteArray := method_4_code
def yL_does : MethodName := ⟨RL, "does", "(LTestSlots;I)I"⟩
abbrev cL_arePupilsSo : ByteArray := method_5_code
def yL_arePupilsSo : MethodName := ⟨RL, "arePupilsSo", "(LTestSlots;)Z"⟩
abbrev cL_areExaminersSo : ByteArray := method_6_code
def yL_areExaminersSo : MethodName := ⟨RL, "areExaminersSo", "(LTestSlots;)Z"⟩
abbrev cL_isCancelSo : ByteArray := method_7_code
def yL_isCancelSo : MethodName := ⟨RL, "isCancelSo", "(LTestSlots;II)Z"⟩
abbrev cL_isAskSo : ByteArray := method_8_code
def yL_isAskSo : MethodName := ⟨RL, "isAskSo", "(LTestSlots;I)Z"⟩
abbrev cL_couldSo : ByteArray := method_9_code
def yL_couldSo : MethodName := ⟨RL, "couldSo", "(LTestSlots;I)Z"⟩
abbrev cL_law : ByteArray := code
def yL_law : MethodName := ⟨RL, "law", "([I)Z"⟩
abbrev vwCl : List vw_C := [(RX0, TX0, 3), (RX1, TX1, 10), (RX2, TX2, 7), (RX3, TX3, 9), (RX4, TX4, 5)]
end
section
theorem dX0_init_0 : decode cX0_init 0 = .ok (.aload_n 0, 1) := by decide +kernel
theorem dX0_init_1 : decode cX0_init 1 = .ok (.invokespecial 3, 3) := by decide +kernel
theorem dX0_init_4 : decode cX0_init 4 = .ok (.aload_n 0, 1) := by decide +kernel
theorem dX0_init_5 : decode cX0_init 5 = .ok (.iconst 4, 1) := by decide +kernel
theorem dX0_init_6 : decode cX0_init 6 = .ok (.newarray .int, 2) := by decide +kernel
theorem dX0_init_8 : decode cX0_init 8 = .ok (.putfield 9, 3) := by decide +kernel
theorem dX0_init_11 : decode cX0_init 11 = .ok (.aload_n 0, 1) := by decide +kernel
theorem dX0_init_12 : decode cX0_init 12 = .ok (.iconst 0, 1) := by decide +kernel
theorem dX0_init_13 : decode cX0_init 13 = .ok (.putfield 15, 3) := by decide +kernel
theorem dX0_init_16 : decode cX0_init 16 = .ok (.aload_n 0, 1) := by decide +kernel
theorem dX0_init_17 : decode cX0_init 17 = .ok (.iconst 0, 1) := by decide +kernel
theorem dX0_init_18 : decode cX0_init 18 = .ok (.putfield 19, 3) := by decide +kernel
theorem dX0_init_21 : decode cX0_init 21 = .ok (.return_, 1) := by decide +kernel
theorem dX0_copyFrom_0 : decode cX0_copyFrom 0 = .ok (.aload_n 1, 1) := by decide +kernel
theorem dX0_copyFrom_1 : decode cX0_copyFrom 1 = .ok (.getfield 9, 3) := by decide +kernel
theorem dX0_copyFrom_4 : decode cX0_copyFrom 4 = .ok (.iconst 0, 1) := by decide +kernel
theorem dX0_copyFrom_5 : decode cX0_copyFrom 5 = .ok (.aload_n 0, 1) := by decide +kernel
theorem dX0_copyFrom_6 : decode cX0_copyFrom 6 = .ok (.getfield 9, 3) := by decide +kernel
theorem dX0_copyFrom_9 : decode cX0_copyFrom 9 = .ok (.iconst 0, 1) := by decide +kernel
theorem dX0_copyFrom_10 : decode cX0_copyFrom 10 = .ok (.aload_n 0, 1) := by decide +kernel
theorem dX0_copyFrom_11 : decode cX0_copyFrom 11 = .ok (.getfield 9, 3) := by decide +kernel
theorem dX0_copyFrom_14 : decode cX0_copyFrom 14 = .ok (.arraylength, 1) := by decide +kernel
theorem dX0_copyFrom_15 : decode cX0_copyFrom 15 = .ok (.invokestatic 22, 3) := by decide +kernel
theorem dX0_copyFrom_18 : decode cX0_copyFrom 18 = .ok (.aload_n 0, 1) := by decide +kernel
theorem dX0_copyFrom_19 : decode cX0_copyFrom 19 = .ok (.aload_n 1, 1) := by decide +kernel
theorem dX0_copyFrom_20 : decode cX0_copyFrom 20 = .ok (.getfield 15, 3) := by decide +kernel
theorem dX0_copyFrom_23 : decode cX0_copyFrom 23 = .ok (.putfield 15, 3) := by decide +kernel
theorem dX0_copyFrom_26 : decode cX0_copyFrom 26 = .ok (.aload_n 0, 1) := by decide +kernel
theorem dX0_copyFrom_27 : decode cX0_copyFrom 27 = .ok (.aload_n 1, 1) := by decide +kernel
theorem dX0_copyFrom_28 : decode cX0_copyFrom 28 = .ok (.getfield 19, 3) := by decide +kernel
theorem dX0_copyFrom_31 : decode cX0_copyFrom 31 = .ok (.putfield 19, 3) := by decide +kernel
theorem dX0_copyFrom_34 : decode cX0_copyFrom 34 = .ok (.return_, 1) := by decide +kernel
theorem dX0_tests_0 : decode cX0_tests 0 = .ok (.iconst 0, 1) := by decide +kernel
theorem dX0_tests_1 : decode cX0_tests 1 = .ok (.istore_n 1, 1) := by decide +kernel
theorem dX0_tests_2 : decode cX0_tests 2 = .ok (.iconst 0, 1) := by decide +kernel
theorem dX0_tests_3 : decode cX0_tests 3 = .ok (.istore_n 2, 1) := by decide +kernel
theorem dX0_tests_4 : decode cX0_tests 4 = .ok (.iload_n 2, 1) := by decide +kernel
theorem dX0_tests_5 : decode cX0_tests 5 = .ok (.aload_n 0, 1) := by decide +kernel
theorem dX0_tests_6 : decode cX0_tests 6 = .ok (.getfield 9, 3) := by decide +kernel
theorem dX0_tests_9 : decode cX0_tests 9 = .ok (.arraylength, 1) := by decide +kernel
theorem dX0_tests_10 : decode cX0_tests 10 = .ok (.if_icmp .ge 18, 3) := by decide +kernel
theorem dX0_tests_13 : decode cX0_tests 13 = .ok (.iload_n 1, 1) := by decide +kernel
theorem dX0_tests_14 : decode cX0_tests 14 = .ok (.aload_n 0, 1) := by decide +kernel
theorem dX0_tests_15 : decode cX0_tests 15 = .ok (.getfield 9, 3) := by decide +kernel
theorem dX0_tests_18 : decode cX0_tests 18 = .ok (.iload_n 2, 1) := by decide +kernel
theorem dX0_tests_19 : decode cX0_tests 19 = .ok (.iaload, 1) := by decide +kernel
theorem dX0_tests_20 : decode cX0_tests 20 = .ok (.iadd, 1) := by decide +kernel
theorem dX0_tests_21 : decode cX0_tests 21 = .ok (.istore_n 1, 1) := by decide +kernel
theorem dX0_tests_22 : decode cX0_tests 22 = .ok (.iinc 2 1, 3) := by decide +kernel
theorem dX0_tests_25 : decode cX0_tests 25 = .ok (.goto (-21), 3) := by decide +kernel
theorem dX0_tests_28 : decode cX0_tests 28 = .ok (.iload_n 1, 1) := by decide +kernel
theorem dX0_tests_29 : decode cX0_tests 29 = .ok (.ireturn, 1) := by decide +kernel
theorem dX0_leastUsedRouteBut_0 : decode cX0_leastUsedRouteBut 0 = .ok (.iload_n 1, 1) := by decide +kernel
theorem dX0_leastUsedRouteBut_1 : decode cX0_leastUsedRouteBut 1 = .ok (.ifCond .ne 7, 3) := by decide +kernel
theorem dX0_leastUsedRouteBut_4 : decode cX0_leastUsedRouteBut 4 = .ok (.iconst 1, 1) := by decide +kernel
theorem dX0_leastUsedRouteBut_5 : decode cX0_leastUsedRouteBut 5 = .ok (.goto 4, 3) := by decide +kernel
theorem dX0_leastUsedRouteBut_8 : decode cX0_leastUsedRouteBut 8 = .ok (.iconst 0, 1) := by decide +kernel
theorem dX0_leastUsedRouteBut_9 : decode cX0_leastUsedRouteBut 9 = .ok (.istore_n 2, 1) := by decide +kernel
theorem dX0_leastUsedRouteBut_10 : decode cX0_leastUsedRouteBut 10 = .ok (.iload_n 2, 1) := by decide +kernel
theorem dX0_leastUsedRouteBut_11 : decode cX0_leastUsedRouteBut 11 = .ok (.iconst 1, 1) := by decide +kernel
theorem dX0_leastUsedRouteBut_12 : decode cX0_leastUsedRouteBut 12 = .ok (.iadd, 1) := by decide +kernel
theorem dX0_leastUsedRouteBut_13 : decode cX0_leastUsedRouteBut 13 = .ok (.istore_n 3, 1) := by decide +kernel
theorem dX0_leastUsedRouteBut_14 : decode cX0_leastUsedRouteBut 14 = .ok (.iload_n 3, 1) := by decide +kernel
theorem dX0_leastUsedRouteBut_15 : decode cX0_leastUsedRouteBut 15 = .ok (.aload_n 0, 1) := by decide +kernel
theorem dX0_leastUsedRouteBut_16 : decode cX0_leastUsedRouteBut 16 = .ok (.getfield 9, 3) := by decide +kernel
theorem dX0_leastUsedRouteBut_19 : decode cX0_leastUsedRouteBut 19 = .ok (.arraylength, 1) := by decide +kernel
theorem dX0_leastUsedRouteBut_20 : decode cX0_leastUsedRouteBut 20 = .ok (.if_icmp .ge 31, 3) := by decide +kernel
theorem dX0_leastUsedRouteBut_23 : decode cX0_leastUsedRouteBut 23 = .ok (.iload_n 3, 1) := by decide +kernel
theorem dX0_leastUsedRouteBut_24 : decode cX0_leastUsedRouteBut 24 = .ok (.iload_n 1, 1) := by decide +kernel
theorem dX0_leastUsedRouteBut_25 : decode cX0_leastUsedRouteBut 25 = .ok (.if_icmp .eq 20, 3) := by decide +kernel
theorem dX0_leastUsedRouteBut_28 : decode cX0_leastUsedRouteBut 28 = .ok (.aload_n 0, 1) := by decide +kernel
theorem dX0_leastUsedRouteBut_29 : decode cX0_leastUsedRouteBut 29 = .ok (.getfield 9, 3) := by decide +kernel
theorem dX0_leastUsedRouteBut_32 : decode cX0_leastUsedRouteBut 32 = .ok (.iload_n 3, 1) := by decide +kernel
theorem dX0_leastUsedRouteBut_33 : decode cX0_leastUsedRouteBut 33 = .ok (.iaload, 1) := by decide +kernel
theorem dX0_leastUsedRouteBut_34 : decode cX0_leastUsedRouteBut 34 = .ok (.aload_n 0, 1) := by decide +kernel
theorem dX0_leastUsedRouteBut_35 : decode cX0_leastUsedRouteBut 35 = .ok (.getfield 9, 3) := by decide +kernel
theorem dX0_leastUsedRouteBut_38 : decode cX0_leastUsedRouteBut 38 = .ok (.iload_n 2, 1) := by decide +kernel
theorem dX0_leastUsedRouteBut_39 : decode cX0_leastUsedRouteBut 39 = .ok (.iaload, 1) := by decide +kernel
theorem dX0_leastUsedRouteBut_40 : decode cX0_leastUsedRouteBut 40 = .ok (.if_icmp .ge 5, 3) := by decide +kernel
theorem dX0_leastUsedRouteBut_43 : decode cX0_leastUsedRouteBut 43 = .ok (.iload_n 3, 1) := by decide +kernel
theorem dX0_leastUsedRouteBut_44 : decode cX0_leastUsedRouteBut 44 = .ok (.istore_n 2, 1) := by decide +kernel
theorem dX0_leastUsedRouteBut_45 : decode cX0_leastUsedRouteBut 45 = .ok (.iinc 3 1, 3) := by decide +kernel
theorem dX0_leastUsedRouteBut_48 : decode cX0_leastUsedRouteBut 48 = .ok (.goto (-34), 3) := by decide +kernel
theorem dX0_leastUsedRouteBut_51 : decode cX0_leastUsedRouteBut 51 = .ok (.iload_n 2, 1) := by decide +kernel
theorem dX0_leastUsedRouteBut_52 : decode cX0_leastUsedRouteBut 52 = .ok (.ireturn, 1) := by decide +kernel
theorem dX1_init_0 : decode cX1_init 0 = .ok (.aload_n 0, 1) := by decide +kernel
theorem dX1_init_1 : decode cX1_init 1 = .ok (.invokespecial 3, 3) := by decide +kernel
theorem dX1_init_4 : decode cX1_init 4 = .ok (.aload_n 0, 1) := by decide +kernel
theorem dX1_init_5 : decode cX1_init 5 = .ok (.iconst 0, 1) := by decide +kernel
theorem dX1_init_6 : decode cX1_init 6 = .ok (.putfield 9, 3) := by decide +kernel
theorem dX1_init_9 : decode cX1_init 9 = .ok (.aload_n 0, 1) := by decide +kernel
theorem dX1_init_10 : decode cX1_init 10 = .ok (.iconst 0, 1) := by decide +kernel
theorem dX1_init_11 : decode cX1_init 11 = .ok (.putfield 15, 3) := by decide +kernel
theorem dX1_init_14 : decode cX1_init 14 = .ok (.aload_n 0, 1) := by decide +kernel
theorem dX1_init_15 : decode cX1_init 15 = .ok (.iconst 0, 1) := by decide +kernel
theorem dX1_init_16 : decode cX1_init 16 = .ok (.putfield 18, 3) := by decide +kernel
theorem dX1_init_19 : decode cX1_init 19 = .ok (.aload_n 0, 1) := by decide +kernel
theorem dX1_init_20 : decode cX1_init 20 = .ok (.iconst 0, 1) := by decide +kernel
theorem dX1_init_21 : decode cX1_init 21 = .ok (.putfield 21, 3) := by decide +kernel
theorem dX1_init_24 : decode cX1_init 24 = .ok (.aload_n 0, 1) := by decide +kernel
theorem dX1_init_25 : decode cX1_init 25 = .ok (.iconst 0, 1) := by decide +kernel
theorem dX1_init_26 : decode cX1_init 26 = .ok (.putfield 24, 3) := by decide +kernel
theorem dX1_init_29 : decode cX1_init 29 = .ok (.aload_n 0, 1) := by decide +kernel
theorem dX1_init_30 : decode cX1_init 30 = .ok (.getstatic 27, 3) := by decide +kernel
theorem dX1_init_33 : decode cX1_init 33 = .ok (.arraylength, 1) := by decide +kernel
theorem dX1_init_34 : decode cX1_init 34 = .ok (.newarray .int, 2) := by decide +kernel
theorem dX1_init_36 : decode cX1_init 36 = .ok (.putfield 31, 3) := by decide +kernel
theorem dX1_init_39 : decode cX1_init 39 = .ok (.aload_n 0, 1) := by decide +kernel
theorem dX1_init_40 : decode cX1_init 40 = .ok (.sipush 160, 3) := by decide +kernel
theorem dX1_init_43 : decode cX1_init 43 = .ok (.newarray .int, 2) := by decide +kernel
theorem dX1_init_45 : decode cX1_init 45 = .ok (.putfield 34, 3) := by decide +kernel
theorem dX1_init_48 : decode cX1_init 48 = .ok (.aload_n 0, 1) := by decide +kernel
theorem dX1_init_49 : decode cX1_init 49 = .ok (.bipush 12, 2) := by decide +kernel
theorem dX1_init_51 : decode cX1_init 51 = .ok (.anewarray 37, 3) := by decide +kernel
theorem dX1_init_54 : decode cX1_init 54 = .ok (.putfield 39, 3) := by decide +kernel
theorem dX1_init_57 : decode cX1_init 57 = .ok (.aload_n 0, 1) := by decide +kernel
theorem dX1_init_58 : decode cX1_init 58 = .ok (.iconst 4, 1) := by decide +kernel
theorem dX1_init_59 : decode cX1_init 59 = .ok (.anewarray 43, 3) := by decide +kernel
theorem dX1_init_62 : decode cX1_init 62 = .ok (.putfield 45, 3) := by decide +kernel
theorem dX1_init_65 : decode cX1_init 65 = .ok (.aload_n 0, 1) := by decide +kernel
theorem dX1_init_66 : decode cX1_init 66 = .ok (.bipush 12, 2) := by decide +kernel
theorem dX1_init_68 : decode cX1_init 68 = .ok (.newarray .int, 2) := by decide +kernel
theorem dX1_init_70 : decode cX1_init 70 = .ok (.putfield 49, 3) := by decide +kernel
theorem dX1_init_73 : decode cX1_init 73 = .ok (.getstatic 27, 3) := by decide +kernel
theorem dX1_init_76 : decode cX1_init 76 = .ok (.iconst 0, 1) := by decide +kernel
theorem dX1_init_77 : decode cX1_init 77 = .ok (.aload_n 0, 1) := by decide +kernel
theorem dX1_init_78 : decode cX1_init 78 = .ok (.getfield 31, 3) := by decide +kernel
theorem dX1_init_81 : decode cX1_init 81 = .ok (.iconst 0, 1) := by decide +kernel
theorem dX1_init_82 : decode cX1_init 82 = .ok (.aload_n 0, 1) := by decide +kernel
theorem dX1_init_83 : decode cX1_init 83 = .ok (.getfield 31, 3) := by decide +kernel
theorem dX1_init_86 : decode cX1_init 86 = .ok (.arraylength, 1) := by decide +kernel
theorem dX1_init_87 : decode cX1_init 87 = .ok (.invokestatic 52, 3) := by decide +kernel
theorem dX1_init_90 : decode cX1_init 90 = .ok (.aload_n 0, 1) := by decide +kernel
theorem dX1_init_91 : decode cX1_init 91 = .ok (.getfield 34, 3) := by decide +kernel
theorem dX1_init_94 : decode cX1_init 94 = .ok (.bipush (-2), 2) := by decide +kernel
theorem dX1_init_96 : decode cX1_init 96 = .ok (.invokestatic 58, 3) := by decide +kernel
theorem dX1_init_99 : decode cX1_init 99 = .ok (.iconst 0, 1) := by decide +kernel
theorem dX1_init_100 : decode cX1_init 100 = .ok (.istore_n 1, 1) := by decide +kernel
theorem dX1_init_101 : decode cX1_init 101 = .ok (.iload_n 1, 1) := by decide +kernel
theorem dX1_init_102 : decode cX1_init 102 = .ok (.aload_n 0, 1) := by decide +kernel
theorem dX1_init_103 : decode cX1_init 103 = .ok (.getfield 39, 3) := by decide +kernel
theorem dX1_init_106 : decode cX1_init 106 = .ok (.arraylength, 1) := by decide +kernel
theorem dX1_init_107 : decode cX1_init 107 = .ok (.if_icmp .ge 22, 3) := by decide +kernel
theorem dX1_init_110 : decode cX1_init 110 = .ok (.aload_n 0, 1) := by decide +kernel
theorem dX1_init_111 : decode cX1_init 111 = .ok (.getfield 39, 3) := by decide +kernel
theorem dX1_init_114 : decode cX1_init 114 = .ok (.iload_n 1, 1) := by decide +kernel
theorem dX1_init_115 : decode cX1_init 115 = .ok (.new 37, 3) := by decide +kernel
theorem dX1_init_118 : decode cX1_init 118 = .ok (.dup, 1) := by decide +kernel
theorem dX1_init_119 : decode cX1_init 119 = .ok (.invokespecial 64, 3) := by decide +kernel
theorem dX1_init_122 : decode cX1_init 122 = .ok (.aastore, 1) := by decide +kernel
theorem dX1_init_123 : decode cX1_init 123 = .ok (.iinc 1 1, 3) := by decide +kernel
theorem dX1_init_126 : decode cX1_init 126 = .ok (.goto (-25), 3) := by decide +kernel
theorem dX1_init_129 : decode cX1_init 129 = .ok (.iconst 0, 1) := by decide +kernel
theorem dX1_init_130 : decode cX1_init 130 = .ok (.istore_n 1, 1) := by decide +kernel
theorem dX1_init_131 : decode cX1_init 131 = .ok (.iload_n 1, 1) := by decide +kernel
theorem dX1_init_132 : decode cX1_init 132 = .ok (.aload_n 0, 1) := by decide +kernel
theorem dX1_init_133 : decode cX1_init 133 = .ok (.getfield 45, 3) := by decide +kernel
theorem dX1_init_136 : decode cX1_init 136 = .ok (.arraylength, 1) := by decide +kernel
theorem dX1_init_137 : decode cX1_init 137 = .ok (.if_icmp .ge 22, 3) := by decide +kernel
theorem dX1_init_140 : decode cX1_init 140 = .ok (.aload_n 0, 1) := by decide +kernel
theorem dX1_init_141 : decode cX1_init 141 = .ok (.getfield 45, 3) := by decide +kernel
theorem dX1_init_144 : decode cX1_init 144 = .ok (.iload_n 1, 1) := by decide +kernel
theorem dX1_init_145 : decode cX1_init 145 = .ok (.new 43, 3) := by decide +kernel
theorem dX1_init_148 : decode cX1_init 148 = .ok (.dup, 1) := by decide +kernel
theorem dX1_init_149 : decode cX1_init 149 = .ok (.invokespecial 65, 3) := by decide +kernel
theorem dX1_init_152 : decode cX1_init 152 = .ok (.aastore, 1) := by decide +kernel
theorem dX1_init_153 : decode cX1_init 153 = .ok (.iinc 1 1, 3) := by decide +kernel
theorem dX1_init_156 : decode cX1_init 156 = .ok (.goto (-25), 3) := by decide +kernel
theorem dX1_init_159 : decode cX1_init 159 = .ok (.return_, 1) := by decide +kernel
theorem dX1_copyFrom_0 : decode cX1_copyFrom 0 = .ok (.aload_n 0, 1) := by decide +kernel
theorem dX1_copyFrom_1 : decode cX1_copyFrom 1 = .ok (.aload_n 1, 1) := by decide +kernel
theorem dX1_copyFrom_2 : decode cX1_copyFrom 2 = .ok (.getfield 9, 3) := by decide +kernel
theorem dX1_copyFrom_5 : decode cX1_copyFrom 5 = .ok (.putfield 9, 3) := by decide +kernel
theorem dX1_copyFrom_8 : decode cX1_copyFrom 8 = .ok (.aload_n 0, 1) := by decide +kernel
theorem dX1_copyFrom_9 : decode cX1_copyFrom 9 = .ok (.aload_n 1, 1) := by decide +kernel
theorem dX1_copyFrom_10 : decode cX1_copyFrom 10 = .ok (.getfield 15, 3) := by decide +kernel
theorem dX1_copyFrom_13 : decode cX1_copyFrom 13 = .ok (.putfield 15, 3) := by decide +kernel
theorem dX1_copyFrom_16 : decode cX1_copyFrom 16 = .ok (.aload_n 0, 1) := by decide +kernel
theorem dX1_copyFrom_17 : decode cX1_copyFrom 17 = .ok (.aload_n 1, 1) := by decide +kernel
theorem dX1_copyFrom_18 : decode cX1_copyFrom 18 = .ok (.getfield 18, 3) := by decide +kernel
theorem dX1_copyFrom_21 : decode cX1_copyFrom 21 = .ok (.putfield 18, 3) := by decide +kernel
theorem dX1_copyFrom_24 : decode cX1_copyFrom 24 = .ok (.aload_n 0, 1) := by decide +kernel
theorem dX1_copyFrom_25 : decode cX1_copyFrom 25 = .ok (.aload_n 1, 1) := by decide +kernel
theorem dX1_copyFrom_26 : decode cX1_copyFrom 26 = .ok (.getfield 21, 3) := by decide +kernel
theorem dX1_copyFrom_29 : decode cX1_copyFrom 29 = .ok (.putfield 21, 3) := by decide +kernel
theorem dX1_copyFrom_32 : decode cX1_copyFrom 32 = .ok (.aload_n 0, 1) := by decide +kernel
theorem dX1_copyFrom_33 : decode cX1_copyFrom 33 = .ok (.aload_n 1, 1) := by decide +kernel
theorem dX1_copyFrom_34 : decode cX1_copyFrom 34 = .ok (.getfield 24, 3) := by decide +kernel
theorem dX1_copyFrom_37 : decode cX1_copyFrom 37 = .ok (.putfield 24, 3) := by decide +kernel
theorem dX1_copyFrom_40 : decode cX1_copyFrom 40 = .ok (.aload_n 1, 1) := by decide +kernel
theorem dX1_copyFrom_41 : decode cX1_copyFrom 41 = .ok (.getfield 31, 3) := by decide +kernel
theorem dX1_copyFrom_44 : decode cX1_copyFrom 44 = .ok (.iconst 0, 1) := by decide +kernel
theorem dX1_copyFrom_45 : decode cX1_copyFrom 45 = .ok (.aload_n 0, 1) := by decide +kernel
theorem dX1_copyFrom_46 : decode cX1_copyFrom 46 = .ok (.getfield 31, 3) := by decide +kernel
theorem dX1_copyFrom_49 : decode cX1_copyFrom 49 = .ok (.iconst 0, 1) := by decide +kernel
theorem dX1_copyFrom_50 : decode cX1_copyFrom 50 = .ok (.aload_n 0, 1) := by decide +kernel
theorem dX1_copyFrom_51 : decode cX1_copyFrom 51 = .ok (.getfield 31, 3) := by decide +kernel
theorem dX1_copyFrom_54 : decode cX1_copyFrom 54 = .ok (.arraylength, 1) := by decide +kernel
theorem dX1_copyFrom_55 : decode cX1_copyFrom 55 = .ok (.invokestatic 52, 3) := by decide +kernel
theorem dX1_copyFrom_58 : decode cX1_copyFrom 58 = .ok (.aload_n 1, 1) := by decide +kernel
theorem dX1_copyFrom_59 : decode cX1_copyFrom 59 = .ok (.getfield 34, 3) := by decide +kernel
theorem dX1_copyFrom_62 : decode cX1_copyFrom 62 = .ok (.iconst 0, 1) := by decide +kernel
theorem dX1_copyFrom_63 : decode cX1_copyFrom 63 = .ok (.aload_n 0, 1) := by decide +kernel
theorem dX1_copyFrom_64 : decode cX1_copyFrom 64 = .ok (.getfield 34, 3) := by decide +kernel
theorem dX1_copyFrom_67 : decode cX1_copyFrom 67 = .ok (.iconst 0, 1) := by decide +kernel
theorem dX1_copyFrom_68 : decode cX1_copyFrom 68 = .ok (.aload_n 0, 1) := by decide +kernel
theorem dX1_copyFrom_69 : decode cX1_copyFrom 69 = .ok (.getfield 34, 3) := by decide +kernel
theorem dX1_copyFrom_72 : decode cX1_copyFrom 72 = .ok (.arraylength, 1) := by decide +kernel
theorem dX1_copyFrom_73 : decode cX1_copyFrom 73 = .ok (.invokestatic 52, 3) := by decide +kernel
theorem dX1_copyFrom_76 : decode cX1_copyFrom 76 = .ok (.iconst 0, 1) := by decide +kernel
theorem dX1_copyFrom_77 : decode cX1_copyFrom 77 = .ok (.istore_n 2, 1) := by decide +kernel
theorem dX1_copyFrom_78 : decode cX1_copyFrom 78 = .ok (.iload_n 2, 1) := by decide +kernel
theorem dX1_copyFrom_79 : decode cX1_copyFrom 79 = .ok (.aload_n 0, 1) := by decide +kernel
theorem dX1_copyFrom_80 : decode cX1_copyFrom 80 = .ok (.getfield 39, 3) := by decide +kernel
theorem dX1_copyFrom_83 : decode cX1_copyFrom 83 = .ok (.arraylength, 1) := by decide +kernel
theorem dX1_copyFrom_84 : decode cX1_copyFrom 84 = .ok (.if_icmp .ge 24, 3) := by decide +kernel
theorem dX1_copyFrom_87 : decode cX1_copyFrom 87 = .ok (.aload_n 0, 1) := by decide +kernel
theorem dX1_copyFrom_88 : decode cX1_copyFrom 88 = .ok (.getfield 39, 3) := by decide +kernel
theorem dX1_copyFrom_91 : decode cX1_copyFrom 91 = .ok (.iload_n 2, 1) := by decide +kernel
theorem dX1_copyFrom_92 : decode cX1_copyFrom 92 = .ok (.aaload, 1) := by decide +kernel
theorem dX1_copyFrom_93 : decode cX1_copyFrom 93 = .ok (.aload_n 1, 1) := by decide +kernel
theorem dX1_copyFrom_94 : decode cX1_copyFrom 94 = .ok (.getfield 39, 3) := by decide +kernel
theorem dX1_copyFrom_97 : decode cX1_copyFrom 97 = .ok (.iload_n 2, 1) := by decide +kernel
theorem dX1_copyFrom_98 : decode cX1_copyFrom 98 = .ok (.aaload, 1) := by decide +kernel
theorem dX1_copyFrom_99 : decode cX1_copyFrom 99 = .ok (.invokevirtual 66, 3) := by decide +kernel
theorem dX1_copyFrom_102 : decode cX1_copyFrom 102 = .ok (.iinc 2 1, 3) := by decide +kernel
theorem dX1_copyFrom_105 : decode cX1_copyFrom 105 = .ok (.goto (-27), 3) := by decide +kernel
theorem dX1_copyFrom_108 : decode cX1_copyFrom 108 = .ok (.iconst 0, 1) := by decide +kernel
theorem dX1_copyFrom_109 : decode cX1_copyFrom 109 = .ok (.istore_n 2, 1) := by decide +kernel
theorem dX1_copyFrom_110 : decode cX1_copyFrom 110 = .ok (.iload_n 2, 1) := by decide +kernel
theorem dX1_copyFrom_111 : decode cX1_copyFrom 111 = .ok (.aload_n 0, 1) := by decide +kernel
theorem dX1_copyFrom_112 : decode cX1_copyFrom 112 = .ok (.getfield 45, 3) := by decide +kernel
theorem dX1_copyFrom_115 : decode cX1_copyFrom 115 = .ok (.arraylength, 1) := by decide +kernel
theorem dX1_copyFrom_116 : decode cX1_copyFrom 116 = .ok (.if_icmp .ge 24, 3) := by decide +kernel
theorem dX1_copyFrom_119 : decode cX1_copyFrom 119 = .ok (.aload_n 0, 1) := by decide +kernel
theorem dX1_copyFrom_120 : decode cX1_copyFrom 120 = .ok (.getfield 45, 3) := by decide +kernel
theorem dX1_copyFrom_123 : decode cX1_copyFrom 123 = .ok (.iload_n 2, 1) := by decide +kernel
theorem dX1_copyFrom_124 : decode cX1_copyFrom 124 = .ok (.aaload, 1) := by decide +kernel
theorem dX1_copyFrom_125 : decode cX1_copyFrom 125 = .ok (.aload_n 1, 1) := by decide +kernel
theorem dX1_copyFrom_126 : decode cX1_copyFrom 126 = .ok (.getfield 45, 3) := by decide +kernel
theorem dX1_copyFrom_129 : decode cX1_copyFrom 129 = .ok (.iload_n 2, 1) := by decide +kernel
theorem dX1_copyFrom_130 : decode cX1_copyFrom 130 = .ok (.aaload, 1) := by decide +kernel
theorem dX1_copyFrom_131 : decode cX1_copyFrom 131 = .ok (.invokevirtual 70, 3) := by decide +kernel
theorem dX1_copyFrom_134 : decode cX1_copyFrom 134 = .ok (.iinc 2 1, 3) := by decide +kernel
theorem dX1_copyFrom_137 : decode cX1_copyFrom 137 = .ok (.goto (-27), 3) := by decide +kernel
theorem dX1_copyFrom_140 : decode cX1_copyFrom 140 = .ok (.return_, 1) := by decide +kernel
theorem dX1_hasPupil_0 : decode cX1_hasPupil 0 = .ok (.iload_n 1, 1) := by decide +kernel
theorem dX1_hasPupil_1 : decode cX1_hasPupil 1 = .ok (.ifCond .lt 15, 3) := by decide +kernel
theorem dX1_hasPupil_4 : decode cX1_hasPupil 4 = .ok (.iload_n 1, 1) := by decide +kernel
theorem dX1_hasPupil_5 : decode cX1_hasPupil 5 = .ok (.aload_n 0, 1) := by decide +kernel
theorem dX1_hasPupil_6 : decode cX1_hasPupil 6 = .ok (.getfield 18, 3) := by decide +kernel
theorem dX1_hasPupil_9 : decode cX1_hasPupil 9 = .ok (.if_icmp .ge 7, 3) := by decide +kernel
theorem dX1_hasPupil_12 : decode cX1_hasPupil 12 = .ok (.iconst 1, 1) := by decide +kernel
theorem dX1_hasPupil_13 : decode cX1_hasPupil 13 = .ok (.goto 4, 3) := by decide +kernel
theorem dX1_hasPupil_16 : decode cX1_hasPupil 16 = .ok (.iconst 0, 1) := by decide +kernel
theorem dX1_hasPupil_17 : decode cX1_hasPupil 17 = .ok (.ireturn, 1) := by decide +kernel
theorem dX1_hasExaminer_0 : decode cX1_hasExaminer 0 = .ok (.iload_n 1, 1) := by decide +kernel
theorem dX1_hasExaminer_1 : decode cX1_hasExaminer 1 = .ok (.ifCond .lt 15, 3) := by decide +kernel
theorem dX1_hasExaminer_4 : decode cX1_hasExaminer 4 = .ok (.iload_n 1, 1) := by decide +kernel
theorem dX1_hasExaminer_5 : decode cX1_hasExaminer 5 = .ok (.aload_n 0, 1) := by decide +kernel
theorem dX1_hasExaminer_6 : decode cX1_hasExaminer 6 = .ok (.getfield 15, 3) := by decide +kernel
theorem dX1_hasExaminer_9 : decode cX1_hasExaminer 9 = .ok (.if_icmp .ge 7, 3) := by decide +kernel
theorem dX1_hasExaminer_12 : decode cX1_hasExaminer 12 = .ok (.iconst 1, 1) := by decide +kernel
theorem dX1_hasExaminer_13 : decode cX1_hasExaminer 13 = .ok (.goto 4, 3) := by decide +kernel
theorem dX1_hasExaminer_16 : decode cX1_hasExaminer 16 = .ok (.iconst 0, 1) := by decide +kernel
theorem dX1_hasExaminer_17 : decode cX1_hasExaminer 17 = .ok (.ireturn, 1) := by decide +kernel
theorem dX1_takeOnExaminer_0 : decode cX1_takeOnExaminer 0 = .ok (.aload_n 0, 1) := by decide +kernel
theorem dX1_takeOnExaminer_1 : decode cX1_takeOnExaminer 1 = .ok (.getfield 15, 3) := by decide +kernel
theorem dX1_takeOnExaminer_4 : decode cX1_takeOnExaminer 4 = .ok (.istore_n 1, 1) := by decide +kernel
theorem dX1_takeOnExaminer_5 : decode cX1_takeOnExaminer 5 = .ok (.aload_n 0, 1) := by decide +kernel
theorem dX1_takeOnExaminer_6 : decode cX1_takeOnExaminer 6 = .ok (.dup, 1) := by decide +kernel
theorem dX1_takeOnExaminer_7 : decode cX1_takeOnExaminer 7 = .ok (.getfield 15, 3) := by decide +kernel
theorem dX1_takeOnExaminer_10 : decode cX1_takeOnExaminer 10 = .ok (.iconst 1, 1) := by decide +kernel
theorem dX1_takeOnExaminer_11 : decode cX1_takeOnExaminer 11 = .ok (.iadd, 1) := by decide +kernel
theorem dX1_takeOnExaminer_12 : decode cX1_takeOnExaminer 12 = .ok (.putfield 15, 3) := by decide +kernel
theorem dX1_takeOnExaminer_15 : decode cX1_takeOnExaminer 15 = .ok (.iconst 0, 1) := by decide +kernel
theorem dX1_takeOnExaminer_16 : decode cX1_takeOnExaminer 16 = .ok (.istore_n 2, 1) := by decide +kernel
theorem dX1_takeOnExaminer_17 : decode cX1_takeOnExaminer 17 = .ok (.iload_n 2, 1) := by decide +kernel
theorem dX1_takeOnExaminer_18 : decode cX1_takeOnExaminer 18 = .ok (.bipush 10, 2) := by decide +kernel
theorem dX1_takeOnExaminer_20 : decode cX1_takeOnExaminer 20 = .ok (.if_icmp .ge 15, 3) := by decide +kernel
theorem dX1_takeOnExaminer_23 : decode cX1_takeOnExaminer 23 = .ok (.aload_n 0, 1) := by decide +kernel
theorem dX1_takeOnExaminer_24 : decode cX1_takeOnExaminer 24 = .ok (.iload_n 1, 1) := by decide +kernel
theorem dX1_takeOnExaminer_25 : decode cX1_takeOnExaminer 25 = .ok (.iload_n 2, 1) := by decide +kernel
theorem dX1_takeOnExaminer_26 : decode cX1_takeOnExaminer 26 = .ok (.invokevirtual 73, 3) := by decide +kernel
theorem dX1_takeOnExaminer_29 : decode cX1_takeOnExaminer 29 = .ok (.iinc 2 1, 3) := by decide +kernel
theorem dX1_takeOnExaminer_32 : decode cX1_takeOnExaminer 32 = .ok (.goto (-15), 3) := by decide +kernel
theorem dX1_takeOnExaminer_35 : decode cX1_takeOnExaminer 35 = .ok (.aload_n 0, 1) := by decide +kernel
theorem dX1_takeOnExaminer_36 : decode cX1_takeOnExaminer 36 = .ok (.invokevirtual 77, 3) := by decide +kernel
theorem dX1_takeOnExaminer_39 : decode cX1_takeOnExaminer 39 = .ok (.iload_n 1, 1) := by decide +kernel
theorem dX1_takeOnExaminer_40 : decode cX1_takeOnExaminer 40 = .ok (.ireturn, 1) := by decide +kernel
theorem dX1_takeOnPupil_0 : decode cX1_takeOnPupil 0 = .ok (.aload_n 0, 1) := by decide +kernel
theorem dX1_takeOnPupil_1 : decode cX1_takeOnPupil 1 = .ok (.getfield 18, 3) := by decide +kernel
theorem dX1_takeOnPupil_4 : decode cX1_takeOnPupil 4 = .ok (.istore_n 1, 1) := by decide +kernel
theorem dX1_takeOnPupil_5 : decode cX1_takeOnPupil 5 = .ok (.aload_n 0, 1) := by decide +kernel
theorem dX1_takeOnPupil_6 : decode cX1_takeOnPupil 6 = .ok (.dup, 1) := by decide +kernel
theorem dX1_takeOnPupil_7 : decode cX1_takeOnPupil 7 = .ok (.getfield 18, 3) := by decide +kernel
theorem dX1_takeOnPupil_10 : decode cX1_takeOnPupil 10 = .ok (.iconst 1, 1) := by decide +kernel
theorem dX1_takeOnPupil_11 : decode cX1_takeOnPupil 11 = .ok (.iadd, 1) := by decide +kernel
theorem dX1_takeOnPupil_12 : decode cX1_takeOnPupil 12 = .ok (.putfield 18, 3) := by decide +kernel
theorem dX1_takeOnPupil_15 : decode cX1_takeOnPupil 15 = .ok (.aload_n 0, 1) := by decide +kernel
theorem dX1_takeOnPupil_16 : decode cX1_takeOnPupil 16 = .ok (.getfield 39, 3) := by decide +kernel
theorem dX1_takeOnPupil_19 : decode cX1_takeOnPupil 19 = .ok (.iload_n 1, 1) := by decide +kernel
theorem dX1_takeOnPupil_20 : decode cX1_takeOnPupil 20 = .ok (.aaload, 1) := by decide +kernel
theorem dX1_takeOnPupil_21 : decode cX1_takeOnPupil 21 = .ok (.aload_n 0, 1) := by decide +kernel
theorem dX1_takeOnPupil_22 : decode cX1_takeOnPupil 22 = .ok (.getfield 9, 3) := by decide +kernel
theorem dX1_takeOnPupil_25 : decode cX1_takeOnPupil 25 = .ok (.putfield 80, 3) := by decide +kernel
theorem dX1_takeOnPupil_28 : decode cX1_takeOnPupil 28 = .ok (.iload_n 1, 1) := by decide +kernel
theorem dX1_takeOnPupil_29 : decode cX1_takeOnPupil 29 = .ok (.ireturn, 1) := by decide +kernel
theorem dX1_mayAsk_0 : decode cX1_mayAsk 0 = .ok (.aload_n 0, 1) := by decide +kernel
theorem dX1_mayAsk_1 : decode cX1_mayAsk 1 = .ok (.getfield 39, 3) := by decide +kernel
theorem dX1_mayAsk_4 : decode cX1_mayAsk 4 = .ok (.iload_n 1, 1) := by decide +kernel
theorem dX1_mayAsk_5 : decode cX1_mayAsk 5 = .ok (.aaload, 1) := by decide +kernel
theorem dX1_mayAsk_6 : decode cX1_mayAsk 6 = .ok (.getfield 83, 3) := by decide +kernel
theorem dX1_mayAsk_9 : decode cX1_mayAsk 9 = .ok (.ifCond .ne 7, 3) := by decide +kernel
theorem dX1_mayAsk_12 : decode cX1_mayAsk 12 = .ok (.iconst 1, 1) := by decide +kernel
theorem dX1_mayAsk_13 : decode cX1_mayAsk 13 = .ok (.goto 4, 3) := by decide +kernel
theorem dX1_mayAsk_16 : decode cX1_mayAsk 16 = .ok (.iconst 0, 1) := by decide +kernel
theorem dX1_mayAsk_17 : decode cX1_mayAsk 17 = .ok (.ireturn, 1) := by decide +kernel
theorem dX1_letAsk_0 : decode cX1_letAsk 0 = .ok (.aload_n 0, 1) := by decide +kernel
theorem dX1_letAsk_1 : decode cX1_letAsk 1 = .ok (.getfield 39, 3) := by decide +kernel
theorem dX1_letAsk_4 : decode cX1_letAsk 4 = .ok (.iload_n 1, 1) := by decide +kernel
theorem dX1_letAsk_5 : decode cX1_letAsk 5 = .ok (.aaload, 1) := by decide +kernel
theorem dX1_letAsk_6 : decode cX1_letAsk 6 = .ok (.astore_n 2, 1) := by decide +kernel
theorem dX1_letAsk_7 : decode cX1_letAsk 7 = .ok (.aload_n 2, 1) := by decide +kernel
theorem dX1_letAsk_8 : decode cX1_letAsk 8 = .ok (.aload_n 0, 1) := by decide +kernel
theorem dX1_letAsk_9 : decode cX1_letAsk 9 = .ok (.getfield 31, 3) := by decide +kernel
theorem dX1_letAsk_12 : decode cX1_letAsk 12 = .ok (.iconst 3, 1) := by decide +kernel
theorem dX1_letAsk_13 : decode cX1_letAsk 13 = .ok (.iaload, 1) := by decide +kernel
theorem dX1_letAsk_14 : decode cX1_letAsk 14 = .ok (.putfield 86, 3) := by decide +kernel
theorem dX1_letAsk_17 : decode cX1_letAsk 17 = .ok (.aload_n 2, 1) := by decide +kernel
theorem dX1_letAsk_18 : decode cX1_letAsk 18 = .ok (.dup, 1) := by decide +kernel
theorem dX1_letAsk_19 : decode cX1_letAsk 19 = .ok (.getfield 89, 3) := by decide +kernel
theorem dX1_letAsk_22 : decode cX1_letAsk 22 = .ok (.aload_n 2, 1) := by decide +kernel
theorem dX1_letAsk_23 : decode cX1_letAsk 23 = .ok (.getfield 86, 3) := by decide +kernel
theorem dX1_letAsk_26 : decode cX1_letAsk 26 = .ok (.iadd, 1) := by decide +kernel
theorem dX1_letAsk_27 : decode cX1_letAsk 27 = .ok (.putfield 89, 3) := by decide +kernel
theorem dX1_letAsk_30 : decode cX1_letAsk 30 = .ok (.aload_n 0, 1) := by decide +kernel
theorem dX1_letAsk_31 : decode cX1_letAsk 31 = .ok (.aload_n 2, 1) := by decide +kernel
theorem dX1_letAsk_32 : decode cX1_letAsk 32 = .ok (.invokevirtual 92, 3) := by decide +kernel
theorem dX1_letAsk_35 : decode cX1_letAsk 35 = .ok (.aload_n 0, 1) := by decide +kernel
theorem dX1_letAsk_36 : decode cX1_letAsk 36 = .ok (.invokevirtual 77, 3) := by decide +kernel
theorem dX1_letAsk_39 : decode cX1_letAsk 39 = .ok (.aload_n 0, 1) := by decide +kernel
theorem dX1_letAsk_40 : decode cX1_letAsk 40 = .ok (.iload_n 1, 1) := by decide +kernel
theorem dX1_letAsk_41 : decode cX1_letAsk 41 = .ok (.invokevirtual 95, 3) := by decide +kernel
theorem dX1_letAsk_44 : decode cX1_letAsk 44 = .ok (.iconst 0, 1) := by decide +kernel
theorem dX1_letAsk_45 : decode cX1_letAsk 45 = .ok (.invokestatic 99, 3) := by decide +kernel
theorem dX1_letAsk_48 : decode cX1_letAsk 48 = .ok (.ireturn, 1) := by decide +kernel
theorem dX1_mayQuit_0 : decode cX1_mayQuit 0 = .ok (.aload_n 0, 1) := by decide +kernel
theorem dX1_mayQuit_1 : decode cX1_mayQuit 1 = .ok (.getfield 39, 3) := by decide +kernel
theorem dX1_mayQuit_4 : decode cX1_mayQuit 4 = .ok (.iload_n 1, 1) := by decide +kernel
theorem dX1_mayQuit_5 : decode cX1_mayQuit 5 = .ok (.aaload, 1) := by decide +kernel
theorem dX1_mayQuit_6 : decode cX1_mayQuit 6 = .ok (.getfield 83, 3) := by decide +kernel
theorem dX1_mayQuit_9 : decode cX1_mayQuit 9 = .ok (.istore_n 2, 1) := by decide +kernel
theorem dX1_mayQuit_10 : decode cX1_mayQuit 10 = .ok (.iload_n 2, 1) := by decide +kernel
theorem dX1_mayQuit_11 : decode cX1_mayQuit 11 = .ok (.iconst 1, 1) := by decide +kernel
theorem dX1_mayQuit_12 : decode cX1_mayQuit 12 = .ok (.if_icmp .eq 8, 3) := by decide +kernel
theorem dX1_mayQuit_15 : decode cX1_mayQuit 15 = .ok (.iload_n 2, 1) := by decide +kernel
theorem dX1_mayQuit_16 : decode cX1_mayQuit 16 = .ok (.iconst 2, 1) := by decide +kernel
theorem dX1_mayQuit_17 : decode cX1_mayQuit 17 = .ok (.if_icmp .ne 7, 3) := by decide +kernel
theorem dX1_mayQuit_20 : decode cX1_mayQuit 20 = .ok (.iconst 1, 1) := by decide +kernel
theorem dX1_mayQuit_21 : decode cX1_mayQuit 21 = .ok (.goto 4, 3) := by decide +kernel
theorem dX1_mayQuit_24 : decode cX1_mayQuit 24 = .ok (.iconst 0, 1) := by decide +kernel
theorem dX1_mayQuit_25 : decode cX1_mayQuit 25 = .ok (.ireturn, 1) := by decide +kernel
theorem dX1_letQuit_0 : decode cX1_letQuit 0 = .ok (.aload_n 0, 1) := by decide +kernel
theorem dX1_letQuit_1 : decode cX1_letQuit 1 = .ok (.getfield 39, 3) := by decide +kernel
theorem dX1_letQuit_4 : decode cX1_letQuit 4 = .ok (.iload_n 1, 1) := by decide +kernel
theorem dX1_letQuit_5 : decode cX1_letQuit 5 = .ok (.aaload, 1) := by decide +kernel
theorem dX1_letQuit_6 : decode cX1_letQuit 6 = .ok (.astore_n 2, 1) := by decide +kernel
theorem dX1_letQuit_7 : decode cX1_letQuit 7 = .ok (.aload_n 2, 1) := by decide +kernel
theorem dX1_letQuit_8 : decode cX1_letQuit 8 = .ok (.getfield 86, 3) := by decide +kernel
theorem dX1_letQuit_11 : decode cX1_letQuit 11 = .ok (.istore_n 3, 1) := by decide +kernel
theorem dX1_letQuit_12 : decode cX1_letQuit 12 = .ok (.aload_n 0, 1) := by decide +kernel
theorem dX1_letQuit_13 : decode cX1_letQuit 13 = .ok (.iload_n 1, 1) := by decide +kernel
theorem dX1_letQuit_14 : decode cX1_letQuit 14 = .ok (.invokevirtual 95, 3) := by decide +kernel
theorem dX1_letQuit_17 : decode cX1_letQuit 17 = .ok (.istore 4, 2) := by decide +kernel
theorem dX1_letQuit_19 : decode cX1_letQuit 19 = .ok (.iload 4, 2) := by decide +kernel
theorem dX1_letQuit_21 : decode cX1_letQuit 21 = .ok (.iconst (-1), 1) := by decide +kernel
theorem dX1_letQuit_22 : decode cX1_letQuit 22 = .ok (.if_icmp .eq 31, 3) := by decide +kernel
theorem dX1_letQuit_25 : decode cX1_letQuit 25 = .ok (.aload_n 0, 1) := by decide +kernel
theorem dX1_letQuit_26 : decode cX1_letQuit 26 = .ok (.getfield 34, 3) := by decide +kernel
theorem dX1_letQuit_29 : decode cX1_letQuit 29 = .ok (.iload 4, 2) := by decide +kernel
theorem dX1_letQuit_31 : decode cX1_letQuit 31 = .ok (.iconst (-1), 1) := by decide +kernel
theorem dX1_letQuit_32 : decode cX1_letQuit 32 = .ok (.iastore, 1) := by decide +kernel
theorem dX1_letQuit_33 : decode cX1_letQuit 33 = .ok (.iload 4, 2) := by decide +kernel
theorem dX1_letQuit_35 : decode cX1_letQuit 35 = .ok (.invokestatic 103, 3) := by decide +kernel
theorem dX1_letQuit_38 : decode cX1_letQuit 38 = .ok (.aload_n 0, 1) := by decide +kernel
theorem dX1_letQuit_39 : decode cX1_letQuit 39 = .ok (.getfield 31, 3) := by decide +kernel
theorem dX1_letQuit_42 : decode cX1_letQuit 42 = .ok (.iconst 2, 1) := by decide +kernel
theorem dX1_letQuit_43 : decode cX1_letQuit 43 = .ok (.iaload, 1) := by decide +kernel
theorem dX1_letQuit_44 : decode cX1_letQuit 44 = .ok (.if_icmp .ge 7, 3) := by decide +kernel
theorem dX1_letQuit_47 : decode cX1_letQuit 47 = .ok (.iconst 0, 1) := by decide +kernel
theorem dX1_letQuit_48 : decode cX1_letQuit 48 = .ok (.goto 4, 3) := by decide +kernel
theorem dX1_letQuit_51 : decode cX1_letQuit 51 = .ok (.iload_n 3, 1) := by decide +kernel
theorem dX1_letQuit_52 : decode cX1_letQuit 52 = .ok (.istore_n 3, 1) := by decide +kernel
theorem dX1_letQuit_53 : decode cX1_letQuit 53 = .ok (.aload_n 2, 1) := by decide +kernel
theorem dX1_letQuit_54 : decode cX1_letQuit 54 = .ok (.iconst 0, 1) := by decide +kernel
theorem dX1_letQuit_55 : decode cX1_letQuit 55 = .ok (.putfield 83, 3) := by decide +kernel
theorem dX1_letQuit_58 : decode cX1_letQuit 58 = .ok (.aload_n 2, 1) := by decide +kernel
theorem dX1_letQuit_59 : decode cX1_letQuit 59 = .ok (.dup, 1) := by decide +kernel
theorem dX1_letQuit_60 : decode cX1_letQuit 60 = .ok (.getfield 89, 3) := by decide +kernel
theorem dX1_letQuit_63 : decode cX1_letQuit 63 = .ok (.iload_n 3, 1) := by decide +kernel
theorem dX1_letQuit_64 : decode cX1_letQuit 64 = .ok (.isub, 1) := by decide +kernel
theorem dX1_letQuit_65 : decode cX1_letQuit 65 = .ok (.putfield 89, 3) := by decide +kernel
theorem dX1_letQuit_68 : decode cX1_letQuit 68 = .ok (.aload_n 0, 1) := by decide +kernel
theorem dX1_letQuit_69 : decode cX1_letQuit 69 = .ok (.invokevirtual 77, 3) := by decide +kernel
theorem dX1_letQuit_72 : decode cX1_letQuit 72 = .ok (.iload_n 3, 1) := by decide +kernel
theorem dX1_letQuit_73 : decode cX1_letQuit 73 = .ok (.ireturn, 1) := by decide +kernel
theorem dX1_cancelMorning_0 : decode cX1_cancelMorning 0 = .ok (.iconst 0, 1) := by decide +kernel
theorem dX1_cancelMorning_1 : decode cX1_cancelMorning 1 = .ok (.istore_n 3, 1) := by decide +kernel
theorem dX1_cancelMorning_2 : decode cX1_cancelMorning 2 = .ok (.iconst 0, 1) := by decide +kernel
theorem dX1_cancelMorning_3 : decode cX1_cancelMorning 3 = .ok (.istore 4, 2) := by decide +kernel
theorem dX1_cancelMorning_5 : decode cX1_cancelMorning 5 = .ok (.iload 4, 2) := by decide +kernel
theorem dX1_cancelMorning_7 : decode cX1_cancelMorning 7 = .ok (.iconst 2, 1) := by decide +kernel
theorem dX1_cancelMorning_8 : decode cX1_cancelMorning 8 = .ok (.if_icmp .ge 75, 3) := by decide +kernel
theorem dX1_cancelMorning_11 : decode cX1_cancelMorning 11 = .ok (.iload_n 1, 1) := by decide +kernel
theorem dX1_cancelMorning_12 : decode cX1_cancelMorning 12 = .ok (.iload_n 2, 1) := by decide +kernel
theorem dX1_cancelMorning_13 : decode cX1_cancelMorning 13 = .ok (.iload 4, 2) := by decide +kernel
theorem dX1_cancelMorning_15 : decode cX1_cancelMorning 15 = .ok (.invokestatic 106, 3) := by decide +kernel
theorem dX1_cancelMorning_18 : decode cX1_cancelMorning 18 = .ok (.istore 5, 2) := by decide +kernel
theorem dX1_cancelMorning_20 : decode cX1_cancelMorning 20 = .ok (.aload_n 0, 1) := by decide +kernel
theorem dX1_cancelMorning_21 : decode cX1_cancelMorning 21 = .ok (.getfield 34, 3) := by decide +kernel
theorem dX1_cancelMorning_24 : decode cX1_cancelMorning 24 = .ok (.iload 5, 2) := by decide +kernel
theorem dX1_cancelMorning_26 : decode cX1_cancelMorning 26 = .ok (.iaload, 1) := by decide +kernel
theorem dX1_cancelMorning_27 : decode cX1_cancelMorning 27 = .ok (.istore 6, 2) := by decide +kernel
theorem dX1_cancelMorning_29 : decode cX1_cancelMorning 29 = .ok (.aload_n 0, 1) := by decide +kernel
theorem dX1_cancelMorning_30 : decode cX1_cancelMorning 30 = .ok (.getfield 34, 3) := by decide +kernel
theorem dX1_cancelMorning_33 : decode cX1_cancelMorning 33 = .ok (.iload 5, 2) := by decide +kernel
theorem dX1_cancelMorning_35 : decode cX1_cancelMorning 35 = .ok (.bipush (-2), 2) := by decide +kernel
theorem dX1_cancelMorning_37 : decode cX1_cancelMorning 37 = .ok (.iastore, 1) := by decide +kernel
theorem dX1_cancelMorning_38 : decode cX1_cancelMorning 38 = .ok (.aload_n 0, 1) := by decide +kernel
theorem dX1_cancelMorning_39 : decode cX1_cancelMorning 39 = .ok (.iload 6, 2) := by decide +kernel
theorem dX1_cancelMorning_41 : decode cX1_cancelMorning 41 = .ok (.invokevirtual 110, 3) := by decide +kernel
theorem dX1_cancelMorning_44 : decode cX1_cancelMorning 44 = .ok (.ifCond .eq 33, 3) := by decide +kernel
theorem dX1_cancelMorning_47 : decode cX1_cancelMorning 47 = .ok (.aload_n 0, 1) := by decide +kernel
theorem dX1_cancelMorning_48 : decode cX1_cancelMorning 48 = .ok (.getfield 39, 3) := by decide +kernel
theorem dX1_cancelMorning_51 : decode cX1_cancelMorning 51 = .ok (.iload 6, 2) := by decide +kernel
theorem dX1_cancelMorning_53 : decode cX1_cancelMorning 53 = .ok (.aaload, 1) := by decide +kernel
theorem dX1_cancelMorning_54 : decode cX1_cancelMorning 54 = .ok (.dup, 1) := by decide +kernel
theorem dX1_cancelMorning_55 : decode cX1_cancelMorning 55 = .ok (.getfield 114, 3) := by decide +kernel
theorem dX1_cancelMorning_58 : decode cX1_cancelMorning 58 = .ok (.iconst 1, 1) := by decide +kernel
theorem dX1_cancelMorning_59 : decode cX1_cancelMorning 59 = .ok (.iadd, 1) := by decide +kernel
theorem dX1_cancelMorning_60 : decode cX1_cancelMorning 60 = .ok (.putfield 114, 3) := by decide +kernel
theorem dX1_cancelMorning_63 : decode cX1_cancelMorning 63 = .ok (.aload_n 0, 1) := by decide +kernel
theorem dX1_cancelMorning_64 : decode cX1_cancelMorning 64 = .ok (.aload_n 0, 1) := by decide +kernel
theorem dX1_cancelMorning_65 : decode cX1_cancelMorning 65 = .ok (.getfield 39, 3) := by decide +kernel
theorem dX1_cancelMorning_68 : decode cX1_cancelMorning 68 = .ok (.iload 6, 2) := by decide +kernel
theorem dX1_cancelMorning_70 : decode cX1_cancelMorning 70 = .ok (.aaload, 1) := by decide +kernel
theorem dX1_cancelMorning_71 : decode cX1_cancelMorning 71 = .ok (.invokevirtual 92, 3) := by decide +kernel
theorem dX1_cancelMorning_74 : decode cX1_cancelMorning 74 = .ok (.iinc 3 1, 3) := by decide +kernel
theorem dX1_cancelMorning_77 : decode cX1_cancelMorning 77 = .ok (.iinc 4 1, 3) := by decide +kernel
theorem dX1_cancelMorning_80 : decode cX1_cancelMorning 80 = .ok (.goto (-75), 3) := by decide +kernel
theorem dX1_cancelMorning_83 : decode cX1_cancelMorning 83 = .ok (.aload_n 0, 1) := by decide +kernel
theorem dX1_cancelMorning_84 : decode cX1_cancelMorning 84 = .ok (.getfield 45, 3) := by decide +kernel
theorem dX1_cancelMorning_87 : decode cX1_cancelMorning 87 = .ok (.iload_n 1, 1) := by decide +kernel
theorem dX1_cancelMorning_88 : decode cX1_cancelMorning 88 = .ok (.aaload, 1) := by decide +kernel
theorem dX1_cancelMorning_89 : decode cX1_cancelMorning 89 = .ok (.dup, 1) := by decide +kernel
theorem dX1_cancelMorning_90 : decode cX1_cancelMorning 90 = .ok (.getfield 117, 3) := by decide +kernel
theorem dX1_cancelMorning_93 : decode cX1_cancelMorning 93 = .ok (.iconst 1, 1) := by decide +kernel
theorem dX1_cancelMorning_94 : decode cX1_cancelMorning 94 = .ok (.iadd, 1) := by decide +kernel
theorem dX1_cancelMorning_95 : decode cX1_cancelMorning 95 = .ok (.putfield 117, 3) := by decide +kernel
theorem dX1_cancelMorning_98 : decode cX1_cancelMorning 98 = .ok (.aload_n 0, 1) := by decide +kernel
theorem dX1_cancelMorning_99 : decode cX1_cancelMorning 99 = .ok (.invokevirtual 77, 3) := by decide +kernel
theorem dX1_cancelMorning_102 : decode cX1_cancelMorning 102 = .ok (.iload_n 3, 1) := by decide +kernel
theorem dX1_cancelMorning_103 : decode cX1_cancelMorning 103 = .ok (.ireturn, 1) := by decide +kernel
theorem dX1_mayBeTested_0 : decode cX1_mayBeTested 0 = .ok (.aload_n 0, 1) := by decide +kernel
theorem dX1_mayBeTested_1 : decode cX1_mayBeTested 1 = .ok (.iload_n 1, 1) := by decide +kernel
theorem dX1_mayBeTested_2 : decode cX1_mayBeTested 2 = .ok (.invokevirtual 95, 3) := by decide +kernel
theorem dX1_mayBeTested_5 : decode cX1_mayBeTested 5 = .ok (.iconst 0, 1) := by decide +kernel
theorem dX1_mayBeTested_6 : decode cX1_mayBeTested 6 = .ok (.invokestatic 99, 3) := by decide +kernel
theorem dX1_mayBeTested_9 : decode cX1_mayBeTested 9 = .ok (.ifCond .ne 7, 3) := by decide +kernel
theorem dX1_mayBeTested_12 : decode cX1_mayBeTested 12 = .ok (.iconst 1, 1) := by decide +kernel
theorem dX1_mayBeTested_13 : decode cX1_mayBeTested 13 = .ok (.goto 4, 3) := by decide +kernel
theorem dX1_mayBeTested_16 : decode cX1_mayBeTested 16 = .ok (.iconst 0, 1) := by decide +kernel
theorem dX1_mayBeTested_17 : decode cX1_mayBeTested 17 = .ok (.ireturn, 1) := by decide +kernel
theorem dX1_holdTest_0 : decode cX1_holdTest 0 = .ok (.aload_n 0, 1) := by decide +kernel
theorem dX1_holdTest_1 : decode cX1_holdTest 1 = .ok (.getfield 39, 3) := by decide +kernel
theorem dX1_holdTest_4 : decode cX1_holdTest 4 = .ok (.iload_n 1, 1) := by decide +kernel
theorem dX1_holdTest_5 : decode cX1_holdTest 5 = .ok (.aaload, 1) := by decide +kernel
theorem dX1_holdTest_6 : decode cX1_holdTest 6 = .ok (.astore_n 3, 1) := by decide +kernel
theorem dX1_holdTest_7 : decode cX1_holdTest 7 = .ok (.aload_n 0, 1) := by decide +kernel
theorem dX1_holdTest_8 : decode cX1_holdTest 8 = .ok (.iload_n 1, 1) := by decide +kernel
theorem dX1_holdTest_9 : decode cX1_holdTest 9 = .ok (.invokevirtual 95, 3) := by decide +kernel
theorem dX1_holdTest_12 : decode cX1_holdTest 12 = .ok (.istore 4, 2) := by decide +kernel
theorem dX1_holdTest_14 : decode cX1_holdTest 14 = .ok (.iload 4, 2) := by decide +kernel
theorem dX1_holdTest_16 : decode cX1_holdTest 16 = .ok (.iconst (-1), 1) := by decide +kernel
theorem dX1_holdTest_17 : decode cX1_holdTest 17 = .ok (.if_icmp .ne 5, 3) := by decide +kernel
theorem dX1_holdTest_20 : decode cX1_holdTest 20 = .ok (.iconst (-1), 1) := by decide +kernel
theorem dX1_holdTest_21 : decode cX1_holdTest 21 = .ok (.ireturn, 1) := by decide +kernel
theorem dX1_holdTest_22 : decode cX1_holdTest 22 = .ok (.iload 4, 2) := by decide +kernel
theorem dX1_holdTest_24 : decode cX1_holdTest 24 = .ok (.invokestatic 120, 3) := by decide +kernel
theorem dX1_holdTest_27 : decode cX1_holdTest 27 = .ok (.istore 5, 2) := by decide +kernel
theorem dX1_holdTest_29 : decode cX1_holdTest 29 = .ok (.aload_n 0, 1) := by decide +kernel
theorem dX1_holdTest_30 : decode cX1_holdTest 30 = .ok (.iload_n 1, 1) := by decide +kernel
theorem dX1_holdTest_31 : decode cX1_holdTest 31 = .ok (.iload 5, 2) := by decide +kernel
theorem dX1_holdTest_33 : decode cX1_holdTest 33 = .ok (.invokevirtual 123, 3) := by decide +kernel
theorem dX1_holdTest_36 : decode cX1_holdTest 36 = .ok (.istore 6, 2) := by decide +kernel
theorem dX1_holdTest_38 : decode cX1_holdTest 38 = .ok (.aload_n 0, 1) := by decide +kernel
theorem dX1_holdTest_39 : decode cX1_holdTest 39 = .ok (.getfield 34, 3) := by decide +kernel
theorem dX1_holdTest_42 : decode cX1_holdTest 42 = .ok (.iload 4, 2) := by decide +kernel
theorem dX1_holdTest_44 : decode cX1_holdTest 44 = .ok (.bipush (-2), 2) := by decide +kernel
theorem dX1_holdTest_46 : decode cX1_holdTest 46 = .ok (.iastore, 1) := by decide +kernel
theorem dX1_holdTest_47 : decode cX1_holdTest 47 = .ok (.aload_n 0, 1) := by decide +kernel
theorem dX1_holdTest_48 : decode cX1_holdTest 48 = .ok (.getfield 45, 3) := by decide +kernel
theorem dX1_holdTest_51 : decode cX1_holdTest 51 = .ok (.iload 5, 2) := by decide +kernel
theorem dX1_holdTest_53 : decode cX1_holdTest 53 = .ok (.aaload, 1) := by decide +kernel
theorem dX1_holdTest_54 : decode cX1_holdTest 54 = .ok (.getfield 126, 3) := by decide +kernel
theorem dX1_holdTest_57 : decode cX1_holdTest 57 = .ok (.iload 6, 2) := by decide +kernel
theorem dX1_holdTest_59 : decode cX1_holdTest 59 = .ok (.dup2, 1) := by decide +kernel
theorem dX1_holdTest_60 : decode cX1_holdTest 60 = .ok (.iaload, 1) := by decide +kernel
theorem dX1_holdTest_61 : decode cX1_holdTest 61 = .ok (.iconst 1, 1) := by decide +kernel
theorem dX1_holdTest_62 : decode cX1_holdTest 62 = .ok (.iadd, 1) := by decide +kernel
theorem dX1_holdTest_63 : decode cX1_holdTest 63 = .ok (.iastore, 1) := by decide +kernel
theorem dX1_holdTest_64 : decode cX1_holdTest 64 = .ok (.aload_n 3, 1) := by decide +kernel
theorem dX1_holdTest_65 : decode cX1_holdTest 65 = .ok (.iload 6, 2) := by decide +kernel
theorem dX1_holdTest_67 : decode cX1_holdTest 67 = .ok (.putfield 129, 3) := by decide +kernel
theorem dX1_holdTest_70 : decode cX1_holdTest 70 = .ok (.aload_n 3, 1) := by decide +kernel
theorem dX1_holdTest_71 : decode cX1_holdTest 71 = .ok (.iload 5, 2) := by decide +kernel
theorem dX1_holdTest_73 : decode cX1_holdTest 73 = .ok (.putfield 132, 3) := by decide +kernel
theorem dX1_holdTest_76 : decode cX1_holdTest 76 = .ok (.iload_n 2, 1) := by decide +kernel
theorem dX1_holdTest_77 : decode cX1_holdTest 77 = .ok (.ifCond .eq 27, 3) := by decide +kernel
theorem dX1_holdTest_80 : decode cX1_holdTest 80 = .ok (.aload_n 0, 1) := by decide +kernel
theorem dX1_holdTest_81 : decode cX1_holdTest 81 = .ok (.getfield 45, 3) := by decide +kernel
theorem dX1_holdTest_84 : decode cX1_holdTest 84 = .ok (.iload 5, 2) := by decide +kernel
theorem dX1_holdTest_86 : decode cX1_holdTest 86 = .ok (.aaload, 1) := by decide +kernel
theorem dX1_holdTest_87 : decode cX1_holdTest 87 = .ok (.dup, 1) := by decide +kernel
theorem dX1_holdTest_88 : decode cX1_holdTest 88 = .ok (.getfield 135, 3) := by decide +kernel
theorem dX1_holdTest_91 : decode cX1_holdTest 91 = .ok (.iconst 1, 1) := by decide +kernel
theorem dX1_holdTest_92 : decode cX1_holdTest 92 = .ok (.iadd, 1) := by decide +kernel
theorem dX1_holdTest_93 : decode cX1_holdTest 93 = .ok (.putfield 135, 3) := by decide +kernel
theorem dX1_holdTest_96 : decode cX1_holdTest 96 = .ok (.aload_n 3, 1) := by decide +kernel
theorem dX1_holdTest_97 : decode cX1_holdTest 97 = .ok (.iconst 3, 1) := by decide +kernel
theorem dX1_holdTest_98 : decode cX1_holdTest 98 = .ok (.putfield 83, 3) := by decide +kernel
theorem dX1_holdTest_101 : decode cX1_holdTest 101 = .ok (.goto 43, 3) := by decide +kernel
theorem dX1_holdTest_104 : decode cX1_holdTest 104 = .ok (.aload_n 3, 1) := by decide +kernel
theorem dX1_holdTest_105 : decode cX1_holdTest 105 = .ok (.dup, 1) := by decide +kernel
theorem dX1_holdTest_106 : decode cX1_holdTest 106 = .ok (.getfield 138, 3) := by decide +kernel
theorem dX1_holdTest_109 : decode cX1_holdTest 109 = .ok (.iconst 1, 1) := by decide +kernel
theorem dX1_holdTest_110 : decode cX1_holdTest 110 = .ok (.iadd, 1) := by decide +kernel
theorem dX1_holdTest_111 : decode cX1_holdTest 111 = .ok (.putfield 138, 3) := by decide +kernel
theorem dX1_holdTest_114 : decode cX1_holdTest 114 = .ok (.aload_n 3, 1) := by decide +kernel
theorem dX1_holdTest_115 : decode cX1_holdTest 115 = .ok (.iconst 0, 1) := by decide +kernel
theorem dX1_holdTest_116 : decode cX1_holdTest 116 = .ok (.putfield 83, 3) := by decide +kernel
theorem dX1_holdTest_119 : decode cX1_holdTest 119 = .ok (.aload_n 3, 1) := by decide +kernel
theorem dX1_holdTest_120 : decode cX1_holdTest 120 = .ok (.aload_n 0, 1) := by decide +kernel
theorem dX1_holdTest_121 : decode cX1_holdTest 121 = .ok (.getfield 9, 3) := by decide +kernel
theorem dX1_holdTest_124 : decode cX1_holdTest 124 = .ok (.aload_n 0, 1) := by decide +kernel
theorem dX1_holdTest_125 : decode cX1_holdTest 125 = .ok (.getfield 31, 3) := by decide +kernel
theorem dX1_holdTest_128 : decode cX1_holdTest 128 = .ok (.iconst 0, 1) := by decide +kernel
theorem dX1_holdTest_129 : decode cX1_holdTest 129 = .ok (.iaload, 1) := by decide +kernel
theorem dX1_holdTest_130 : decode cX1_holdTest 130 = .ok (.aload_n 3, 1) := by decide +kernel
theorem dX1_holdTest_131 : decode cX1_holdTest 131 = .ok (.getfield 138, 3) := by decide +kernel
theorem dX1_holdTest_134 : decode cX1_holdTest 134 = .ok (.imul, 1) := by decide +kernel
theorem dX1_holdTest_135 : decode cX1_holdTest 135 = .ok (.bipush 60, 2) := by decide +kernel
theorem dX1_holdTest_137 : decode cX1_holdTest 137 = .ok (.invokestatic 141, 3) := by decide +kernel
theorem dX1_holdTest_140 : decode cX1_holdTest 140 = .ok (.iadd, 1) := by decide +kernel
theorem dX1_holdTest_141 : decode cX1_holdTest 141 = .ok (.putfield 80, 3) := by decide +kernel
theorem dX1_holdTest_144 : decode cX1_holdTest 144 = .ok (.iload 6, 2) := by decide +kernel
theorem dX1_holdTest_146 : decode cX1_holdTest 146 = .ok (.ireturn, 1) := by decide +kernel
theorem dX1_mayGoOn_0 : decode cX1_mayGoOn 0 = .ok (.aload_n 0, 1) := by decide +kernel
theorem dX1_mayGoOn_1 : decode cX1_mayGoOn 1 = .ok (.getfield 9, 3) := by decide +kernel
theorem dX1_mayGoOn_4 : decode cX1_mayGoOn 4 = .ok (.sipush 9999, 3) := by decide +kernel
theorem dX1_mayGoOn_7 : decode cX1_mayGoOn 7 = .ok (.if_icmp .ge 7, 3) := by decide +kernel
theorem dX1_mayGoOn_10 : decode cX1_mayGoOn 10 = .ok (.iconst 1, 1) := by decide +kernel
theorem dX1_mayGoOn_11 : decode cX1_mayGoOn 11 = .ok (.goto 4, 3) := by decide +kernel
theorem dX1_mayGoOn_14 : decode cX1_mayGoOn 14 = .ok (.iconst 0, 1) := by decide +kernel
theorem dX1_mayGoOn_15 : decode cX1_mayGoOn 15 = .ok (.ireturn, 1) := by decide +kernel
theorem dX1_goOn_0 : decode cX1_goOn 0 = .ok (.iconst 0, 1) := by decide +kernel
theorem dX1_goOn_1 : decode cX1_goOn 1 = .ok (.istore_n 1, 1) := by decide +kernel
theorem dX1_goOn_2 : decode cX1_goOn 2 = .ok (.iconst 0, 1) := by decide +kernel
theorem dX1_goOn_3 : decode cX1_goOn 3 = .ok (.istore_n 2, 1) := by decide +kernel
theorem dX1_goOn_4 : decode cX1_goOn 4 = .ok (.iload_n 2, 1) := by decide +kernel
theorem dX1_goOn_5 : decode cX1_goOn 5 = .ok (.bipush 16, 2) := by decide +kernel
theorem dX1_goOn_7 : decode cX1_goOn 7 = .ok (.if_icmp .ge 40, 3) := by decide +kernel
theorem dX1_goOn_10 : decode cX1_goOn 10 = .ok (.aload_n 0, 1) := by decide +kernel
theorem dX1_goOn_11 : decode cX1_goOn 11 = .ok (.aload_n 0, 1) := by decide +kernel
theorem dX1_goOn_12 : decode cX1_goOn 12 = .ok (.getfield 34, 3) := by decide +kernel
theorem dX1_goOn_15 : decode cX1_goOn 15 = .ok (.iload_n 2, 1) := by decide +kernel
theorem dX1_goOn_16 : decode cX1_goOn 16 = .ok (.iaload, 1) := by decide +kernel
theorem dX1_goOn_17 : decode cX1_goOn 17 = .ok (.invokevirtual 110, 3) := by decide +kernel
theorem dX1_goOn_20 : decode cX1_goOn 20 = .ok (.ifCond .eq 21, 3) := by decide +kernel
theorem dX1_goOn_23 : decode cX1_goOn 23 = .ok (.aload_n 0, 1) := by decide +kernel
theorem dX1_goOn_24 : decode cX1_goOn 24 = .ok (.getfield 39, 3) := by decide +kernel
theorem dX1_goOn_27 : decode cX1_goOn 27 = .ok (.aload_n 0, 1) := by decide +kernel
theorem dX1_goOn_28 : decode cX1_goOn 28 = .ok (.getfield 34, 3) := by decide +kernel
theorem dX1_goOn_31 : decode cX1_goOn 31 = .ok (.iload_n 2, 1) := by decide +kernel
theorem dX1_goOn_32 : decode cX1_goOn 32 = .ok (.iaload, 1) := by decide +kernel
theorem dX1_goOn_33 : decode cX1_goOn 33 = .ok (.aaload, 1) := by decide +kernel
theorem dX1_goOn_34 : decode cX1_goOn 34 = .ok (.iconst 0, 1) := by decide +kernel
theorem dX1_goOn_35 : decode cX1_goOn 35 = .ok (.putfield 83, 3) := by decide +kernel
theorem dX1_goOn_38 : decode cX1_goOn 38 = .ok (.iinc 1 1, 3) := by decide +kernel
theorem dX1_goOn_41 : decode cX1_goOn 41 = .ok (.iinc 2 1, 3) := by decide +kernel
theorem dX1_goOn_44 : decode cX1_goOn 44 = .ok (.goto (-40), 3) := by decide +kernel
theorem dX1_goOn_47 : decode cX1_goOn 47 = .ok (.aload_n 0, 1) := by decide +kernel
theorem dX1_goOn_48 : decode cX1_goOn 48 = .ok (.dup, 1) := by decide +kernel
theorem dX1_goOn_49 : decode cX1_goOn 49 = .ok (.getfield 24, 3) := by decide +kernel
theorem dX1_goOn_52 : decode cX1_goOn 52 = .ok (.iload_n 1, 1) := by decide +kernel
theorem dX1_goOn_53 : decode cX1_goOn 53 = .ok (.iadd, 1) := by decide +kernel
theorem dX1_goOn_54 : decode cX1_goOn 54 = .ok (.putfield 24, 3) := by decide +kernel
theorem dX1_goOn_57 : decode cX1_goOn 57 = .ok (.aload_n 0, 1) := by decide +kernel
theorem dX1_goOn_58 : decode cX1_goOn 58 = .ok (.dup, 1) := by decide +kernel
theorem dX1_goOn_59 : decode cX1_goOn 59 = .ok (.getfield 9, 3) := by decide +kernel
theorem dX1_goOn_62 : decode cX1_goOn 62 = .ok (.iconst 1, 1) := by decide +kernel
theorem dX1_goOn_63 : decode cX1_goOn 63 = .ok (.iadd, 1) := by decide +kernel
theorem dX1_goOn_64 : decode cX1_goOn 64 = .ok (.putfield 9, 3) := by decide +kernel
theorem dX1_goOn_67 : decode cX1_goOn 67 = .ok (.aload_n 0, 1) := by decide +kernel
theorem dX1_goOn_68 : decode cX1_goOn 68 = .ok (.getfield 34, 3) := by decide +kernel
theorem dX1_goOn_71 : decode cX1_goOn 71 = .ok (.bipush 16, 2) := by decide +kernel
theorem dX1_goOn_73 : decode cX1_goOn 73 = .ok (.aload_n 0, 1) := by decide +kernel
theorem dX1_goOn_74 : decode cX1_goOn 74 = .ok (.getfield 34, 3) := by decide +kernel
theorem dX1_goOn_77 : decode cX1_goOn 77 = .ok (.iconst 0, 1) := by decide +kernel
theorem dX1_goOn_78 : decode cX1_goOn 78 = .ok (.aload_n 0, 1) := by decide +kernel
theorem dX1_goOn_79 : decode cX1_goOn 79 = .ok (.getfield 34, 3) := by decide +kernel
theorem dX1_goOn_82 : decode cX1_goOn 82 = .ok (.arraylength, 1) := by decide +kernel
theorem dX1_goOn_83 : decode cX1_goOn 83 = .ok (.bipush 16, 2) := by decide +kernel
theorem dX1_goOn_85 : decode cX1_goOn 85 = .ok (.isub, 1) := by decide +kernel
theorem dX1_goOn_86 : decode cX1_goOn 86 = .ok (.invokestatic 52, 3) := by decide +kernel
theorem dX1_goOn_89 : decode cX1_goOn 89 = .ok (.iconst 0, 1) := by decide +kernel
theorem dX1_goOn_90 : decode cX1_goOn 90 = .ok (.istore_n 2, 1) := by decide +kernel
theorem dX1_goOn_91 : decode cX1_goOn 91 = .ok (.iload_n 2, 1) := by decide +kernel
theorem dX1_goOn_92 : decode cX1_goOn 92 = .ok (.aload_n 0, 1) := by decide +kernel
theorem dX1_goOn_93 : decode cX1_goOn 93 = .ok (.getfield 15, 3) := by decide +kernel
theorem dX1_goOn_96 : decode cX1_goOn 96 = .ok (.if_icmp .ge 16, 3) := by decide +kernel
theorem dX1_goOn_99 : decode cX1_goOn 99 = .ok (.aload_n 0, 1) := by decide +kernel
theorem dX1_goOn_100 : decode cX1_goOn 100 = .ok (.iload_n 2, 1) := by decide +kernel
theorem dX1_goOn_101 : decode cX1_goOn 101 = .ok (.bipush 9, 2) := by decide +kernel
theorem dX1_goOn_103 : decode cX1_goOn 103 = .ok (.invokevirtual 73, 3) := by decide +kernel
theorem dX1_goOn_106 : decode cX1_goOn 106 = .ok (.iinc 2 1, 3) := by decide +kernel
theorem dX1_goOn_109 : decode cX1_goOn 109 = .ok (.goto (-18), 3) := by decide +kernel
theorem dX1_goOn_112 : decode cX1_goOn 112 = .ok (.aload_n 0, 1) := by decide +kernel
theorem dX1_goOn_113 : decode cX1_goOn 113 = .ok (.invokevirtual 77, 3) := by decide +kernel
theorem dX1_goOn_116 : decode cX1_goOn 116 = .ok (.iload_n 1, 1) := by decide +kernel
theorem dX1_goOn_117 : decode cX1_goOn 117 = .ok (.ireturn, 1) := by decide +kernel
theorem dX1_freeSlotsOf_0 : decode cX1_freeSlotsOf 0 = .ok (.iconst 0, 1) := by decide +kernel
theorem dX1_freeSlotsOf_1 : decode cX1_freeSlotsOf 1 = .ok (.istore_n 3, 1) := by decide +kernel
theorem dX1_freeSlotsOf_2 : decode cX1_freeSlotsOf 2 = .ok (.iload_n 3, 1) := by decide +kernel
theorem dX1_freeSlotsOf_3 : decode cX1_freeSlotsOf 3 = .ok (.iconst 4, 1) := by decide +kernel
theorem dX1_freeSlotsOf_4 : decode cX1_freeSlotsOf 4 = .ok (.if_icmp .ge 21, 3) := by decide +kernel
theorem dX1_freeSlotsOf_7 : decode cX1_freeSlotsOf 7 = .ok (.aload_n 0, 1) := by decide +kernel
theorem dX1_freeSlotsOf_8 : decode cX1_freeSlotsOf 8 = .ok (.getfield 34, 3) := by decide +kernel
theorem dX1_freeSlotsOf_11 : decode cX1_freeSlotsOf 11 = .ok (.iload_n 1, 1) := by decide +kernel
theorem dX1_freeSlotsOf_12 : decode cX1_freeSlotsOf 12 = .ok (.iload_n 2, 1) := by decide +kernel
theorem dX1_freeSlotsOf_13 : decode cX1_freeSlotsOf 13 = .ok (.iload_n 3, 1) := by decide +kernel
theorem dX1_freeSlotsOf_14 : decode cX1_freeSlotsOf 14 = .ok (.invokestatic 106, 3) := by decide +kernel
theorem dX1_freeSlotsOf_17 : decode cX1_freeSlotsOf 17 = .ok (.iconst (-1), 1) := by decide +kernel
theorem dX1_freeSlotsOf_18 : decode cX1_freeSlotsOf 18 = .ok (.iastore, 1) := by decide +kernel
theorem dX1_freeSlotsOf_19 : decode cX1_freeSlotsOf 19 = .ok (.iinc 3 1, 3) := by decide +kernel
theorem dX1_freeSlotsOf_22 : decode cX1_freeSlotsOf 22 = .ok (.goto (-20), 3) := by decide +kernel
theorem dX1_freeSlotsOf_25 : decode cX1_freeSlotsOf 25 = .ok (.return_, 1) := by decide +kernel
theorem dX1_beginToWait_0 : decode cX1_beginToWait 0 = .ok (.aload_n 1, 1) := by decide +kernel
theorem dX1_beginToWait_1 : decode cX1_beginToWait 1 = .ok (.iconst 1, 1) := by decide +kernel
theorem dX1_beginToWait_2 : decode cX1_beginToWait 2 = .ok (.putfield 83, 3) := by decide +kernel
theorem dX1_beginToWait_5 : decode cX1_beginToWait 5 = .ok (.aload_n 1, 1) := by decide +kernel
theorem dX1_beginToWait_6 : decode cX1_beginToWait 6 = .ok (.aload_n 0, 1) := by decide +kernel
theorem dX1_beginToWait_7 : decode cX1_beginToWait 7 = .ok (.getfield 21, 3) := by decide +kernel
theorem dX1_beginToWait_10 : decode cX1_beginToWait 10 = .ok (.putfield 146, 3) := by decide +kernel
theorem dX1_beginToWait_13 : decode cX1_beginToWait 13 = .ok (.aload_n 0, 1) := by decide +kernel
theorem dX1_beginToWait_14 : decode cX1_beginToWait 14 = .ok (.dup, 1) := by decide +kernel
theorem dX1_beginToWait_15 : decode cX1_beginToWait 15 = .ok (.getfield 21, 3) := by decide +kernel
theorem dX1_beginToWait_18 : decode cX1_beginToWait 18 = .ok (.iconst 1, 1) := by decide +kernel
theorem dX1_beginToWait_19 : decode cX1_beginToWait 19 = .ok (.iadd, 1) := by decide +kernel
theorem dX1_beginToWait_20 : decode cX1_beginToWait 20 = .ok (.putfield 21, 3) := by decide +kernel
theorem dX1_beginToWait_23 : decode cX1_beginToWait 23 = .ok (.return_, 1) := by decide +kernel
theorem dX1_giveSlotsOut_0 : decode cX1_giveSlotsOut 0 = .ok (.aload_n 0, 1) := by decide +kernel
theorem dX1_giveSlotsOut_1 : decode cX1_giveSlotsOut 1 = .ok (.getfield 49, 3) := by decide +kernel
theorem dX1_giveSlotsOut_4 : decode cX1_giveSlotsOut 4 = .ok (.iconst (-1), 1) := by decide +kernel
theorem dX1_giveSlotsOut_5 : decode cX1_giveSlotsOut 5 = .ok (.invokestatic 58, 3) := by decide +kernel
theorem dX1_giveSlotsOut_8 : decode cX1_giveSlotsOut 8 = .ok (.iconst 0, 1) := by decide +kernel
theorem dX1_giveSlotsOut_9 : decode cX1_giveSlotsOut 9 = .ok (.istore_n 1, 1) := by decide +kernel
theorem dX1_giveSlotsOut_10 : decode cX1_giveSlotsOut 10 = .ok (.iload_n 1, 1) := by decide +kernel
theorem dX1_giveSlotsOut_11 : decode cX1_giveSlotsOut 11 = .ok (.aload_n 0, 1) := by decide +kernel
theorem dX1_giveSlotsOut_12 : decode cX1_giveSlotsOut 12 = .ok (.getfield 18, 3) := by decide +kernel
theorem dX1_giveSlotsOut_15 : decode cX1_giveSlotsOut 15 = .ok (.if_icmp .ge 35, 3) := by decide +kernel
theorem dX1_giveSlotsOut_18 : decode cX1_giveSlotsOut 18 = .ok (.aload_n 0, 1) := by decide +kernel
theorem dX1_giveSlotsOut_19 : decode cX1_giveSlotsOut 19 = .ok (.iload_n 1, 1) := by decide +kernel
theorem dX1_giveSlotsOut_20 : decode cX1_giveSlotsOut 20 = .ok (.invokevirtual 149, 3) := by decide +kernel
theorem dX1_giveSlotsOut_23 : decode cX1_giveSlotsOut 23 = .ok (.istore_n 2, 1) := by decide +kernel
theorem dX1_giveSlotsOut_24 : decode cX1_giveSlotsOut 24 = .ok (.iload_n 2, 1) := by decide +kernel
theorem dX1_giveSlotsOut_25 : decode cX1_giveSlotsOut 25 = .ok (.ifCond .lt 19, 3) := by decide +kernel
theorem dX1_giveSlotsOut_28 : decode cX1_giveSlotsOut 28 = .ok (.iload_n 2, 1) := by decide +kernel
theorem dX1_giveSlotsOut_29 : decode cX1_giveSlotsOut 29 = .ok (.aload_n 0, 1) := by decide +kernel
theorem dX1_giveSlotsOut_30 : decode cX1_giveSlotsOut 30 = .ok (.getfield 49, 3) := by decide +kernel
theorem dX1_giveSlotsOut_33 : decode cX1_giveSlotsOut 33 = .ok (.arraylength, 1) := by decide +kernel
theorem dX1_giveSlotsOut_34 : decode cX1_giveSlotsOut 34 = .ok (.if_icmp .ge 10, 3) := by decide +kernel
theorem dX1_giveSlotsOut_37 : decode cX1_giveSlotsOut 37 = .ok (.aload_n 0, 1) := by decide +kernel
theorem dX1_giveSlotsOut_38 : decode cX1_giveSlotsOut 38 = .ok (.getfield 49, 3) := by decide +kernel
theorem dX1_giveSlotsOut_41 : decode cX1_giveSlotsOut 41 = .ok (.iload_n 2, 1) := by decide +kernel
theorem dX1_giveSlotsOut_42 : decode cX1_giveSlotsOut 42 = .ok (.iload_n 1, 1) := by decide +kernel
theorem dX1_giveSlotsOut_43 : decode cX1_giveSlotsOut 43 = .ok (.iastore, 1) := by decide +kernel
theorem dX1_giveSlotsOut_44 : decode cX1_giveSlotsOut 44 = .ok (.iinc 1 1, 3) := by decide +kernel
theorem dX1_giveSlotsOut_47 : decode cX1_giveSlotsOut 47 = .ok (.goto (-37), 3) := by decide +kernel
theorem dX1_giveSlotsOut_50 : decode cX1_giveSlotsOut 50 = .ok (.iconst 0, 1) := by decide +kernel
theorem dX1_giveSlotsOut_51 : decode cX1_giveSlotsOut 51 = .ok (.istore_n 1, 1) := by decide +kernel
theorem dX1_giveSlotsOut_52 : decode cX1_giveSlotsOut 52 = .ok (.iload_n 1, 1) := by decide +kernel
theorem dX1_giveSlotsOut_53 : decode cX1_giveSlotsOut 53 = .ok (.aload_n 0, 1) := by decide +kernel
theorem dX1_giveSlotsOut_54 : decode cX1_giveSlotsOut 54 = .ok (.getfield 49, 3) := by decide +kernel
theorem dX1_giveSlotsOut_57 : decode cX1_giveSlotsOut 57 = .ok (.arraylength, 1) := by decide +kernel
theorem dX1_giveSlotsOut_58 : decode cX1_giveSlotsOut 58 = .ok (.if_icmp .ge 57, 3) := by decide +kernel
theorem dX1_giveSlotsOut_61 : decode cX1_giveSlotsOut 61 = .ok (.aload_n 0, 1) := by decide +kernel
theorem dX1_giveSlotsOut_62 : decode cX1_giveSlotsOut 62 = .ok (.aload_n 0, 1) := by decide +kernel
theorem dX1_giveSlotsOut_63 : decode cX1_giveSlotsOut 63 = .ok (.getfield 49, 3) := by decide +kernel
theorem dX1_giveSlotsOut_66 : decode cX1_giveSlotsOut 66 = .ok (.iload_n 1, 1) := by decide +kernel
theorem dX1_giveSlotsOut_67 : decode cX1_giveSlotsOut 67 = .ok (.iaload, 1) := by decide +kernel
theorem dX1_giveSlotsOut_68 : decode cX1_giveSlotsOut 68 = .ok (.invokevirtual 110, 3) := by decide +kernel
theorem dX1_giveSlotsOut_71 : decode cX1_giveSlotsOut 71 = .ok (.ifCond .eq 44, 3) := by decide +kernel
theorem dX1_giveSlotsOut_74 : decode cX1_giveSlotsOut 74 = .ok (.aload_n 0, 1) := by decide +kernel
theorem dX1_giveSlotsOut_75 : decode cX1_giveSlotsOut 75 = .ok (.getfield 49, 3) := by decide +kernel
theorem dX1_giveSlotsOut_78 : decode cX1_giveSlotsOut 78 = .ok (.iload_n 1, 1) := by decide +kernel
theorem dX1_giveSlotsOut_79 : decode cX1_giveSlotsOut 79 = .ok (.iaload, 1) := by decide +kernel
theorem dX1_giveSlotsOut_80 : decode cX1_giveSlotsOut 80 = .ok (.istore_n 2, 1) := by decide +kernel
theorem dX1_giveSlotsOut_81 : decode cX1_giveSlotsOut 81 = .ok (.aload_n 0, 1) := by decide +kernel
theorem dX1_giveSlotsOut_82 : decode cX1_giveSlotsOut 82 = .ok (.iload_n 2, 1) := by decide +kernel
theorem dX1_giveSlotsOut_83 : decode cX1_giveSlotsOut 83 = .ok (.invokevirtual 152, 3) := by decide +kernel
theorem dX1_giveSlotsOut_86 : decode cX1_giveSlotsOut 86 = .ok (.istore_n 3, 1) := by decide +kernel
theorem dX1_giveSlotsOut_87 : decode cX1_giveSlotsOut 87 = .ok (.iload_n 3, 1) := by decide +kernel
theorem dX1_giveSlotsOut_88 : decode cX1_giveSlotsOut 88 = .ok (.iconst (-1), 1) := by decide +kernel
theorem dX1_giveSlotsOut_89 : decode cX1_giveSlotsOut 89 = .ok (.if_icmp .eq 20, 3) := by decide +kernel
theorem dX1_giveSlotsOut_92 : decode cX1_giveSlotsOut 92 = .ok (.aload_n 0, 1) := by decide +kernel
theorem dX1_giveSlotsOut_93 : decode cX1_giveSlotsOut 93 = .ok (.getfield 34, 3) := by decide +kernel
theorem dX1_giveSlotsOut_96 : decode cX1_giveSlotsOut 96 = .ok (.iload_n 3, 1) := by decide +kernel
theorem dX1_giveSlotsOut_97 : decode cX1_giveSlotsOut 97 = .ok (.iload_n 2, 1) := by decide +kernel
theorem dX1_giveSlotsOut_98 : decode cX1_giveSlotsOut 98 = .ok (.iastore, 1) := by decide +kernel
theorem dX1_giveSlotsOut_99 : decode cX1_giveSlotsOut 99 = .ok (.aload_n 0, 1) := by decide +kernel
theorem dX1_giveSlotsOut_100 : decode cX1_giveSlotsOut 100 = .ok (.getfield 39, 3) := by decide +kernel
theorem dX1_giveSlotsOut_103 : decode cX1_giveSlotsOut 103 = .ok (.iload_n 2, 1) := by decide +kernel
theorem dX1_giveSlotsOut_104 : decode cX1_giveSlotsOut 104 = .ok (.aaload, 1) := by decide +kernel
theorem dX1_giveSlotsOut_105 : decode cX1_giveSlotsOut 105 = .ok (.iconst 2, 1) := by decide +kernel
theorem dX1_giveSlotsOut_106 : decode cX1_giveSlotsOut 106 = .ok (.putfield 83, 3) := by decide +kernel
theorem dX1_giveSlotsOut_109 : decode cX1_giveSlotsOut 109 = .ok (.iinc 1 1, 3) := by decide +kernel
theorem dX1_giveSlotsOut_112 : decode cX1_giveSlotsOut 112 = .ok (.goto (-60), 3) := by decide +kernel
theorem dX1_giveSlotsOut_115 : decode cX1_giveSlotsOut 115 = .ok (.return_, 1) := by decide +kernel
theorem dX1_placeInQueue_0 : decode cX1_placeInQueue 0 = .ok (.aload_n 0, 1) := by decide +kernel
theorem dX1_placeInQueue_1 : decode cX1_placeInQueue 1 = .ok (.getfield 39, 3) := by decide +kernel
theorem dX1_placeInQueue_4 : decode cX1_placeInQueue 4 = .ok (.iload_n 1, 1) := by decide +kernel
theorem dX1_placeInQueue_5 : decode cX1_placeInQueue 5 = .ok (.aaload, 1) := by decide +kernel
theorem dX1_placeInQueue_6 : decode cX1_placeInQueue 6 = .ok (.astore_n 2, 1) := by decide +kernel
theorem dX1_placeInQueue_7 : decode cX1_placeInQueue 7 = .ok (.aload_n 2, 1) := by decide +kernel
theorem dX1_placeInQueue_8 : decode cX1_placeInQueue 8 = .ok (.getfield 83, 3) := by decide +kernel
theorem dX1_placeInQueue_11 : decode cX1_placeInQueue 11 = .ok (.iconst 1, 1) := by decide +kernel
theorem dX1_placeInQueue_12 : decode cX1_placeInQueue 12 = .ok (.if_icmp .eq 5, 3) := by decide +kernel
theorem dX1_placeInQueue_15 : decode cX1_placeInQueue 15 = .ok (.iconst (-1), 1) := by decide +kernel
theorem dX1_placeInQueue_16 : decode cX1_placeInQueue 16 = .ok (.ireturn, 1) := by decide +kernel
theorem dX1_placeInQueue_17 : decode cX1_placeInQueue 17 = .ok (.iconst 0, 1) := by decide +kernel
theorem dX1_placeInQueue_18 : decode cX1_placeInQueue 18 = .ok (.istore_n 3, 1) := by decide +kernel
theorem dX1_placeInQueue_19 : decode cX1_placeInQueue 19 = .ok (.iconst 0, 1) := by decide +kernel
theorem dX1_placeInQueue_20 : decode cX1_placeInQueue 20 = .ok (.istore 4, 2) := by decide +kernel
theorem dX1_placeInQueue_22 : decode cX1_placeInQueue 22 = .ok (.iload 4, 2) := by decide +kernel
theorem dX1_placeInQueue_24 : decode cX1_placeInQueue 24 = .ok (.aload_n 0, 1) := by decide +kernel
theorem dX1_placeInQueue_25 : decode cX1_placeInQueue 25 = .ok (.getfield 18, 3) := by decide +kernel
theorem dX1_placeInQueue_28 : decode cX1_placeInQueue 28 = .ok (.if_icmp .ge 40, 3) := by decide +kernel
theorem dX1_placeInQueue_31 : decode cX1_placeInQueue 31 = .ok (.aload_n 0, 1) := by decide +kernel
theorem dX1_placeInQueue_32 : decode cX1_placeInQueue 32 = .ok (.getfield 39, 3) := by decide +kernel
theorem dX1_placeInQueue_35 : decode cX1_placeInQueue 35 = .ok (.iload 4, 2) := by decide +kernel
theorem dX1_placeInQueue_37 : decode cX1_placeInQueue 37 = .ok (.aaload, 1) := by decide +kernel
theorem dX1_placeInQueue_38 : decode cX1_placeInQueue 38 = .ok (.getfield 83, 3) := by decide +kernel
theorem dX1_placeInQueue_41 : decode cX1_placeInQueue 41 = .ok (.iconst 1, 1) := by decide +kernel
theorem dX1_placeInQueue_42 : decode cX1_placeInQueue 42 = .ok (.if_icmp .ne 20, 3) := by decide +kernel
theorem dX1_placeInQueue_45 : decode cX1_placeInQueue 45 = .ok (.aload_n 0, 1) := by decide +kernel
theorem dX1_placeInQueue_46 : decode cX1_placeInQueue 46 = .ok (.getfield 39, 3) := by decide +kernel
theorem dX1_placeInQueue_49 : decode cX1_placeInQueue 49 = .ok (.iload 4, 2) := by decide +kernel
theorem dX1_placeInQueue_51 : decode cX1_placeInQueue 51 = .ok (.aaload, 1) := by decide +kernel
theorem dX1_placeInQueue_52 : decode cX1_placeInQueue 52 = .ok (.aload_n 2, 1) := by decide +kernel
theorem dX1_placeInQueue_53 : decode cX1_placeInQueue 53 = .ok (.invokevirtual 155, 3) := by decide +kernel
theorem dX1_placeInQueue_56 : decode cX1_placeInQueue 56 = .ok (.ifCond .eq 6, 3) := by decide +kernel
theorem dX1_placeInQueue_59 : decode cX1_placeInQueue 59 = .ok (.iinc 3 1, 3) := by decide +kernel
theorem dX1_placeInQueue_62 : decode cX1_placeInQueue 62 = .ok (.iinc 4 1, 3) := by decide +kernel
theorem dX1_placeInQueue_65 : decode cX1_placeInQueue 65 = .ok (.goto (-43), 3) := by decide +kernel
theorem dX1_placeInQueue_68 : decode cX1_placeInQueue 68 = .ok (.iload_n 3, 1) := by decide +kernel
theorem dX1_placeInQueue_69 : decode cX1_placeInQueue 69 = .ok (.ireturn, 1) := by decide +kernel
theorem dX1_cellOf_0 : decode cX1_cellOf 0 = .ok (.iconst 0, 1) := by decide +kernel
theorem dX1_cellOf_1 : decode cX1_cellOf 1 = .ok (.istore_n 2, 1) := by decide +kernel
theorem dX1_cellOf_2 : decode cX1_cellOf 2 = .ok (.iload_n 2, 1) := by decide +kernel
theorem dX1_cellOf_3 : decode cX1_cellOf 3 = .ok (.aload_n 0, 1) := by decide +kernel
theorem dX1_cellOf_4 : decode cX1_cellOf 4 = .ok (.getfield 34, 3) := by decide +kernel
theorem dX1_cellOf_7 : decode cX1_cellOf 7 = .ok (.arraylength, 1) := by decide +kernel
theorem dX1_cellOf_8 : decode cX1_cellOf 8 = .ok (.if_icmp .ge 21, 3) := by decide +kernel
theorem dX1_cellOf_11 : decode cX1_cellOf 11 = .ok (.aload_n 0, 1) := by decide +kernel
theorem dX1_cellOf_12 : decode cX1_cellOf 12 = .ok (.getfield 34, 3) := by decide +kernel
theorem dX1_cellOf_15 : decode cX1_cellOf 15 = .ok (.iload_n 2, 1) := by decide +kernel
theorem dX1_cellOf_16 : decode cX1_cellOf 16 = .ok (.iaload, 1) := by decide +kernel
theorem dX1_cellOf_17 : decode cX1_cellOf 17 = .ok (.iload_n 1, 1) := by decide +kernel
theorem dX1_cellOf_18 : decode cX1_cellOf 18 = .ok (.if_icmp .ne 5, 3) := by decide +kernel
theorem dX1_cellOf_21 : decode cX1_cellOf 21 = .ok (.iload_n 2, 1) := by decide +kernel
theorem dX1_cellOf_22 : decode cX1_cellOf 22 = .ok (.ireturn, 1) := by decide +kernel
theorem dX1_cellOf_23 : decode cX1_cellOf 23 = .ok (.iinc 2 1, 3) := by decide +kernel
theorem dX1_cellOf_26 : decode cX1_cellOf 26 = .ok (.goto (-24), 3) := by decide +kernel
theorem dX1_cellOf_29 : decode cX1_cellOf 29 = .ok (.iconst (-1), 1) := by decide +kernel
theorem dX1_cellOf_30 : decode cX1_cellOf 30 = .ok (.ireturn, 1) := by decide +kernel
theorem dX1_earliestCell_0 : decode cX1_earliestCell 0 = .ok (.iconst 0, 1) := by decide +kernel
theorem dX1_earliestCell_1 : decode cX1_earliestCell 1 = .ok (.istore_n 2, 1) := by decide +kernel
theorem dX1_earliestCell_2 : decode cX1_earliestCell 2 = .ok (.iload_n 2, 1) := by decide +kernel
theorem dX1_earliestCell_3 : decode cX1_earliestCell 3 = .ok (.aload_n 0, 1) := by decide +kernel
theorem dX1_earliestCell_4 : decode cX1_earliestCell 4 = .ok (.getfield 34, 3) := by decide +kernel
theorem dX1_earliestCell_7 : decode cX1_earliestCell 7 = .ok (.arraylength, 1) := by decide +kernel
theorem dX1_earliestCell_8 : decode cX1_earliestCell 8 = .ok (.if_icmp .ge 45, 3) := by decide +kernel
theorem dX1_earliestCell_11 : decode cX1_earliestCell 11 = .ok (.aload_n 0, 1) := by decide +kernel
theorem dX1_earliestCell_12 : decode cX1_earliestCell 12 = .ok (.getfield 34, 3) := by decide +kernel
theorem dX1_earliestCell_15 : decode cX1_earliestCell 15 = .ok (.iload_n 2, 1) := by decide +kernel
theorem dX1_earliestCell_16 : decode cX1_earliestCell 16 = .ok (.iaload, 1) := by decide +kernel
theorem dX1_earliestCell_17 : decode cX1_earliestCell 17 = .ok (.iconst (-1), 1) := by decide +kernel
theorem dX1_earliestCell_18 : decode cX1_earliestCell 18 = .ok (.if_icmp .ne 29, 3) := by decide +kernel
theorem dX1_earliestCell_21 : decode cX1_earliestCell 21 = .ok (.aload_n 0, 1) := by decide +kernel
theorem dX1_earliestCell_22 : decode cX1_earliestCell 22 = .ok (.iload_n 1, 1) := by decide +kernel
theorem dX1_earliestCell_23 : decode cX1_earliestCell 23 = .ok (.iload_n 2, 1) := by decide +kernel
theorem dX1_earliestCell_24 : decode cX1_earliestCell 24 = .ok (.invokestatic 103, 3) := by decide +kernel
theorem dX1_earliestCell_27 : decode cX1_earliestCell 27 = .ok (.invokevirtual 159, 3) := by decide +kernel
theorem dX1_earliestCell_30 : decode cX1_earliestCell 30 = .ok (.ifCond .eq 17, 3) := by decide +kernel
theorem dX1_earliestCell_33 : decode cX1_earliestCell 33 = .ok (.aload_n 0, 1) := by decide +kernel
theorem dX1_earliestCell_34 : decode cX1_earliestCell 34 = .ok (.iload_n 1, 1) := by decide +kernel
theorem dX1_earliestCell_35 : decode cX1_earliestCell 35 = .ok (.iload_n 2, 1) := by decide +kernel
theorem dX1_earliestCell_36 : decode cX1_earliestCell 36 = .ok (.invokestatic 120, 3) := by decide +kernel
theorem dX1_earliestCell_39 : decode cX1_earliestCell 39 = .ok (.invokevirtual 163, 3) := by decide +kernel
theorem dX1_earliestCell_42 : decode cX1_earliestCell 42 = .ok (.ifCond .eq 5, 3) := by decide +kernel
theorem dX1_earliestCell_45 : decode cX1_earliestCell 45 = .ok (.iload_n 2, 1) := by decide +kernel
theorem dX1_earliestCell_46 : decode cX1_earliestCell 46 = .ok (.ireturn, 1) := by decide +kernel
theorem dX1_earliestCell_47 : decode cX1_earliestCell 47 = .ok (.iinc 2 1, 3) := by decide +kernel
theorem dX1_earliestCell_50 : decode cX1_earliestCell 50 = .ok (.goto (-48), 3) := by decide +kernel
theorem dX1_earliestCell_53 : decode cX1_earliestCell 53 = .ok (.iconst (-1), 1) := by decide +kernel
theorem dX1_earliestCell_54 : decode cX1_earliestCell 54 = .ok (.ireturn, 1) := by decide +kernel
theorem dX1_couldCome_0 : decode cX1_couldCome 0 = .ok (.aload_n 0, 1) := by decide +kernel
theorem dX1_couldCome_1 : decode cX1_couldCome 1 = .ok (.getfield 9, 3) := by decide +kernel
theorem dX1_couldCome_4 : decode cX1_couldCome 4 = .ok (.iload_n 2, 1) := by decide +kernel
theorem dX1_couldCome_5 : decode cX1_couldCome 5 = .ok (.iadd, 1) := by decide +kernel
theorem dX1_couldCome_6 : decode cX1_couldCome 6 = .ok (.aload_n 0, 1) := by decide +kernel
theorem dX1_couldCome_7 : decode cX1_couldCome 7 = .ok (.getfield 39, 3) := by decide +kernel
theorem dX1_couldCome_10 : decode cX1_couldCome 10 = .ok (.iload_n 1, 1) := by decide +kernel
theorem dX1_couldCome_11 : decode cX1_couldCome 11 = .ok (.aaload, 1) := by decide +kernel
theorem dX1_couldCome_12 : decode cX1_couldCome 12 = .ok (.getfield 80, 3) := by decide +kernel
theorem dX1_couldCome_15 : decode cX1_couldCome 15 = .ok (.if_icmp .lt 7, 3) := by decide +kernel
theorem dX1_couldCome_18 : decode cX1_couldCome 18 = .ok (.iconst 1, 1) := by decide +kernel
theorem dX1_couldCome_19 : decode cX1_couldCome 19 = .ok (.goto 4, 3) := by decide +kernel
theorem dX1_couldCome_22 : decode cX1_couldCome 22 = .ok (.iconst 0, 1) := by decide +kernel
theorem dX1_couldCome_23 : decode cX1_couldCome 23 = .ok (.ireturn, 1) := by decide +kernel
theorem dX1_mayMeet_0 : decode cX1_mayMeet 0 = .ok (.aload_n 0, 1) := by decide +kernel
theorem dX1_mayMeet_1 : decode cX1_mayMeet 1 = .ok (.getfield 31, 3) := by decide +kernel
theorem dX1_mayMeet_4 : decode cX1_mayMeet 4 = .ok (.iconst 1, 1) := by decide +kernel
theorem dX1_mayMeet_5 : decode cX1_mayMeet 5 = .ok (.iaload, 1) := by decide +kernel
theorem dX1_mayMeet_6 : decode cX1_mayMeet 6 = .ok (.ifCond .eq 16, 3) := by decide +kernel
theorem dX1_mayMeet_9 : decode cX1_mayMeet 9 = .ok (.aload_n 0, 1) := by decide +kernel
theorem dX1_mayMeet_10 : decode cX1_mayMeet 10 = .ok (.getfield 39, 3) := by decide +kernel
theorem dX1_mayMeet_13 : decode cX1_mayMeet 13 = .ok (.iload_n 1, 1) := by decide +kernel
theorem dX1_mayMeet_14 : decode cX1_mayMeet 14 = .ok (.aaload, 1) := by decide +kernel
theorem dX1_mayMeet_15 : decode cX1_mayMeet 15 = .ok (.getfield 132, 3) := by decide +kernel
theorem dX1_mayMeet_18 : decode cX1_mayMeet 18 = .ok (.iload_n 2, 1) := by decide +kernel
theorem dX1_mayMeet_19 : decode cX1_mayMeet 19 = .ok (.if_icmp .eq 7, 3) := by decide +kernel
theorem dX1_mayMeet_22 : decode cX1_mayMeet 22 = .ok (.iconst 1, 1) := by decide +kernel
theorem dX1_mayMeet_23 : decode cX1_mayMeet 23 = .ok (.goto 4, 3) := by decide +kernel
theorem dX1_mayMeet_26 : decode cX1_mayMeet 26 = .ok (.iconst 0, 1) := by decide +kernel
theorem dX1_mayMeet_27 : decode cX1_mayMeet 27 = .ok (.ireturn, 1) := by decide +kernel
theorem dX1_routeFor_0 : decode cX1_routeFor 0 = .ok (.aload_n 0, 1) := by decide +kernel
theorem dX1_routeFor_1 : decode cX1_routeFor 1 = .ok (.getfield 45, 3) := by decide +kernel
theorem dX1_routeFor_4 : decode cX1_routeFor 4 = .ok (.iload_n 2, 1) := by decide +kernel
theorem dX1_routeFor_5 : decode cX1_routeFor 5 = .ok (.aaload, 1) := by decide +kernel
theorem dX1_routeFor_6 : decode cX1_routeFor 6 = .ok (.aload_n 0, 1) := by decide +kernel
theorem dX1_routeFor_7 : decode cX1_routeFor 7 = .ok (.getfield 39, 3) := by decide +kernel
theorem dX1_routeFor_10 : decode cX1_routeFor 10 = .ok (.iload_n 1, 1) := by decide +kernel
theorem dX1_routeFor_11 : decode cX1_routeFor 11 = .ok (.aaload, 1) := by decide +kernel
theorem dX1_routeFor_12 : decode cX1_routeFor 12 = .ok (.getfield 129, 3) := by decide +kernel
theorem dX1_routeFor_15 : decode cX1_routeFor 15 = .ok (.invokevirtual 166, 3) := by decide +kernel
theorem dX1_routeFor_18 : decode cX1_routeFor 18 = .ok (.ireturn, 1) := by decide +kernel
theorem dX1_mostWithSlotsOf_0 : decode cX1_mostWithSlotsOf 0 = .ok (.bipush 12, 2) := by decide +kernel
theorem dX1_mostWithSlotsOf_2 : decode cX1_mostWithSlotsOf 2 = .ok (.istore_n 2, 1) := by decide +kernel
theorem dX1_mostWithSlotsOf_3 : decode cX1_mostWithSlotsOf 3 = .ok (.iconst 0, 1) := by decide +kernel
theorem dX1_mostWithSlotsOf_4 : decode cX1_mostWithSlotsOf 4 = .ok (.istore_n 3, 1) := by decide +kernel
theorem dX1_mostWithSlotsOf_5 : decode cX1_mostWithSlotsOf 5 = .ok (.iload_n 3, 1) := by decide +kernel
theorem dX1_mostWithSlotsOf_6 : decode cX1_mostWithSlotsOf 6 = .ok (.bipush 16, 2) := by decide +kernel
theorem dX1_mostWithSlotsOf_8 : decode cX1_mostWithSlotsOf 8 = .ok (.if_icmp .ge 31, 3) := by decide +kernel
theorem dX1_mostWithSlotsOf_11 : decode cX1_mostWithSlotsOf 11 = .ok (.aload_n 0, 1) := by decide +kernel
theorem dX1_mostWithSlotsOf_12 : decode cX1_mostWithSlotsOf 12 = .ok (.iload_n 3, 1) := by decide +kernel
theorem dX1_mostWithSlotsOf_13 : decode cX1_mostWithSlotsOf 13 = .ok (.iload_n 1, 1) := by decide +kernel
theorem dX1_mostWithSlotsOf_14 : decode cX1_mostWithSlotsOf 14 = .ok (.invokevirtual 169, 3) := by decide +kernel
theorem dX1_mostWithSlotsOf_17 : decode cX1_mostWithSlotsOf 17 = .ok (.aload_n 0, 1) := by decide +kernel
theorem dX1_mostWithSlotsOf_18 : decode cX1_mostWithSlotsOf 18 = .ok (.iload_n 3, 1) := by decide +kernel
theorem dX1_mostWithSlotsOf_19 : decode cX1_mostWithSlotsOf 19 = .ok (.iload_n 1, 1) := by decide +kernel
theorem dX1_mostWithSlotsOf_20 : decode cX1_mostWithSlotsOf 20 = .ok (.invokevirtual 172, 3) := by decide +kernel
theorem dX1_mostWithSlotsOf_23 : decode cX1_mostWithSlotsOf 23 = .ok (.iadd, 1) := by decide +kernel
theorem dX1_mostWithSlotsOf_24 : decode cX1_mostWithSlotsOf 24 = .ok (.istore 4, 2) := by decide +kernel
theorem dX1_mostWithSlotsOf_26 : decode cX1_mostWithSlotsOf 26 = .ok (.iload_n 2, 1) := by decide +kernel
theorem dX1_mostWithSlotsOf_27 : decode cX1_mostWithSlotsOf 27 = .ok (.iload 4, 2) := by decide +kernel
theorem dX1_mostWithSlotsOf_29 : decode cX1_mostWithSlotsOf 29 = .ok (.invokestatic 141, 3) := by decide +kernel
theorem dX1_mostWithSlotsOf_32 : decode cX1_mostWithSlotsOf 32 = .ok (.istore_n 2, 1) := by decide +kernel
theorem dX1_mostWithSlotsOf_33 : decode cX1_mostWithSlotsOf 33 = .ok (.iinc 3 1, 3) := by decide +kernel
theorem dX1_mostWithSlotsOf_36 : decode cX1_mostWithSlotsOf 36 = .ok (.goto (-31), 3) := by decide +kernel
theorem dX1_mostWithSlotsOf_39 : decode cX1_mostWithSlotsOf 39 = .ok (.iload_n 2, 1) := by decide +kernel
theorem dX1_mostWithSlotsOf_40 : decode cX1_mostWithSlotsOf 40 = .ok (.ireturn, 1) := by decide +kernel
theorem dX1_freeSlotsOfGroup_0 : decode cX1_freeSlotsOfGroup 0 = .ok (.iconst 0, 1) := by decide +kernel
theorem dX1_freeSlotsOfGroup_1 : decode cX1_freeSlotsOfGroup 1 = .ok (.istore_n 3, 1) := by decide +kernel
theorem dX1_freeSlotsOfGroup_2 : decode cX1_freeSlotsOfGroup 2 = .ok (.iconst 0, 1) := by decide +kernel
theorem dX1_freeSlotsOfGroup_3 : decode cX1_freeSlotsOfGroup 3 = .ok (.istore 4, 2) := by decide +kernel
theorem dX1_freeSlotsOfGroup_5 : decode cX1_freeSlotsOfGroup 5 = .ok (.iload 4, 2) := by decide +kernel
theorem dX1_freeSlotsOfGroup_7 : decode cX1_freeSlotsOfGroup 7 = .ok (.bipush 16, 2) := by decide +kernel
theorem dX1_freeSlotsOfGroup_9 : decode cX1_freeSlotsOfGroup 9 = .ok (.if_icmp .ge 40, 3) := by decide +kernel
theorem dX1_freeSlotsOfGroup_12 : decode cX1_freeSlotsOfGroup 12 = .ok (.aload_n 0, 1) := by decide +kernel
theorem dX1_freeSlotsOfGroup_13 : decode cX1_freeSlotsOfGroup 13 = .ok (.getfield 34, 3) := by decide +kernel
theorem dX1_freeSlotsOfGroup_16 : decode cX1_freeSlotsOfGroup 16 = .ok (.iload_n 2, 1) := by decide +kernel
theorem dX1_freeSlotsOfGroup_17 : decode cX1_freeSlotsOfGroup 17 = .ok (.bipush 16, 2) := by decide +kernel
theorem dX1_freeSlotsOfGroup_19 : decode cX1_freeSlotsOfGroup 19 = .ok (.imul, 1) := by decide +kernel
theorem dX1_freeSlotsOfGroup_20 : decode cX1_freeSlotsOfGroup 20 = .ok (.iload 4, 2) := by decide +kernel
theorem dX1_freeSlotsOfGroup_22 : decode cX1_freeSlotsOfGroup 22 = .ok (.iadd, 1) := by decide +kernel
theorem dX1_freeSlotsOfGroup_23 : decode cX1_freeSlotsOfGroup 23 = .ok (.iaload, 1) := by decide +kernel
theorem dX1_freeSlotsOfGroup_24 : decode cX1_freeSlotsOfGroup 24 = .ok (.iconst (-1), 1) := by decide +kernel
theorem dX1_freeSlotsOfGroup_25 : decode cX1_freeSlotsOfGroup 25 = .ok (.if_icmp .ne 18, 3) := by decide +kernel
theorem dX1_freeSlotsOfGroup_28 : decode cX1_freeSlotsOfGroup 28 = .ok (.iload_n 1, 1) := by decide +kernel
theorem dX1_freeSlotsOfGroup_29 : decode cX1_freeSlotsOfGroup 29 = .ok (.iload 4, 2) := by decide +kernel
theorem dX1_freeSlotsOfGroup_31 : decode cX1_freeSlotsOfGroup 31 = .ok (.invokestatic 120, 3) := by decide +kernel
theorem dX1_freeSlotsOfGroup_34 : decode cX1_freeSlotsOfGroup 34 = .ok (.invokestatic 175, 3) := by decide +kernel
theorem dX1_freeSlotsOfGroup_37 : decode cX1_freeSlotsOfGroup 37 = .ok (.ifCond .eq 6, 3) := by decide +kernel
theorem dX1_freeSlotsOfGroup_40 : decode cX1_freeSlotsOfGroup 40 = .ok (.iinc 3 1, 3) := by decide +kernel
theorem dX1_freeSlotsOfGroup_43 : decode cX1_freeSlotsOfGroup 43 = .ok (.iinc 4 1, 3) := by decide +kernel
theorem dX1_freeSlotsOfGroup_46 : decode cX1_freeSlotsOfGroup 46 = .ok (.goto (-41), 3) := by decide +kernel
theorem dX1_freeSlotsOfGroup_49 : decode cX1_freeSlotsOfGroup 49 = .ok (.iload_n 3, 1) := by decide +kernel
theorem dX1_freeSlotsOfGroup_50 : decode cX1_freeSlotsOfGroup 50 = .ok (.ireturn, 1) := by decide +kernel
theorem dX1_pupilsNotKeptTo_0 : decode cX1_pupilsNotKeptTo 0 = .ok (.iconst 0, 1) := by decide +kernel
theorem dX1_pupilsNotKeptTo_1 : decode cX1_pupilsNotKeptTo 1 = .ok (.istore_n 3, 1) := by decide +kernel
theorem dX1_pupilsNotKeptTo_2 : decode cX1_pupilsNotKeptTo 2 = .ok (.iconst 0, 1) := by decide +kernel
theorem dX1_pupilsNotKeptTo_3 : decode cX1_pupilsNotKeptTo 3 = .ok (.istore 4, 2) := by decide +kernel
theorem dX1_pupilsNotKeptTo_5 : decode cX1_pupilsNotKeptTo 5 = .ok (.iload 4, 2) := by decide +kernel
theorem dX1_pupilsNotKeptTo_7 : decode cX1_pupilsNotKeptTo 7 = .ok (.aload_n 0, 1) := by decide +kernel
theorem dX1_pupilsNotKeptTo_8 : decode cX1_pupilsNotKeptTo 8 = .ok (.getfield 18, 3) := by decide +kernel
theorem dX1_pupilsNotKeptTo_11 : decode cX1_pupilsNotKeptTo 11 = .ok (.if_icmp .ge 67, 3) := by decide +kernel
theorem dX1_pupilsNotKeptTo_14 : decode cX1_pupilsNotKeptTo 14 = .ok (.aload_n 0, 1) := by decide +kernel
theorem dX1_pupilsNotKeptTo_15 : decode cX1_pupilsNotKeptTo 15 = .ok (.getfield 39, 3) := by decide +kernel
theorem dX1_pupilsNotKeptTo_18 : decode cX1_pupilsNotKeptTo 18 = .ok (.iload 4, 2) := by decide +kernel
theorem dX1_pupilsNotKeptTo_20 : decode cX1_pupilsNotKeptTo 20 = .ok (.aaload, 1) := by decide +kernel
theorem dX1_pupilsNotKeptTo_21 : decode cX1_pupilsNotKeptTo 21 = .ok (.getfield 83, 3) := by decide +kernel
theorem dX1_pupilsNotKeptTo_24 : decode cX1_pupilsNotKeptTo 24 = .ok (.istore 5, 2) := by decide +kernel
theorem dX1_pupilsNotKeptTo_26 : decode cX1_pupilsNotKeptTo 26 = .ok (.iload 5, 2) := by decide +kernel
theorem dX1_pupilsNotKeptTo_28 : decode cX1_pupilsNotKeptTo 28 = .ok (.ifCond .eq 9, 3) := by decide +kernel
theorem dX1_pupilsNotKeptTo_31 : decode cX1_pupilsNotKeptTo 31 = .ok (.iload 5, 2) := by decide +kernel
theorem dX1_pupilsNotKeptTo_33 : decode cX1_pupilsNotKeptTo 33 = .ok (.iconst 1, 1) := by decide +kernel
theorem dX1_pupilsNotKeptTo_34 : decode cX1_pupilsNotKeptTo 34 = .ok (.if_icmp .ne 7, 3) := by decide +kernel
theorem dX1_pupilsNotKeptTo_37 : decode cX1_pupilsNotKeptTo 37 = .ok (.iconst 1, 1) := by decide +kernel
theorem dX1_pupilsNotKeptTo_38 : decode cX1_pupilsNotKeptTo 38 = .ok (.goto 4, 3) := by decide +kernel
theorem dX1_pupilsNotKeptTo_41 : decode cX1_pupilsNotKeptTo 41 = .ok (.iconst 0, 1) := by decide +kernel
theorem dX1_pupilsNotKeptTo_42 : decode cX1_pupilsNotKeptTo 42 = .ok (.istore 6, 2) := by decide +kernel
theorem dX1_pupilsNotKeptTo_44 : decode cX1_pupilsNotKeptTo 44 = .ok (.iload 6, 2) := by decide +kernel
theorem dX1_pupilsNotKeptTo_46 : decode cX1_pupilsNotKeptTo 46 = .ok (.ifCond .eq 26, 3) := by decide +kernel
theorem dX1_pupilsNotKeptTo_49 : decode cX1_pupilsNotKeptTo 49 = .ok (.aload_n 0, 1) := by decide +kernel
theorem dX1_pupilsNotKeptTo_50 : decode cX1_pupilsNotKeptTo 50 = .ok (.iload 4, 2) := by decide +kernel
theorem dX1_pupilsNotKeptTo_52 : decode cX1_pupilsNotKeptTo 52 = .ok (.iload_n 2, 1) := by decide +kernel
theorem dX1_pupilsNotKeptTo_53 : decode cX1_pupilsNotKeptTo 53 = .ok (.invokevirtual 159, 3) := by decide +kernel
theorem dX1_pupilsNotKeptTo_56 : decode cX1_pupilsNotKeptTo 56 = .ok (.ifCond .eq 16, 3) := by decide +kernel
theorem dX1_pupilsNotKeptTo_59 : decode cX1_pupilsNotKeptTo 59 = .ok (.aload_n 0, 1) := by decide +kernel
theorem dX1_pupilsNotKeptTo_60 : decode cX1_pupilsNotKeptTo 60 = .ok (.iload 4, 2) := by decide +kernel
theorem dX1_pupilsNotKeptTo_62 : decode cX1_pupilsNotKeptTo 62 = .ok (.iload_n 1, 1) := by decide +kernel
theorem dX1_pupilsNotKeptTo_63 : decode cX1_pupilsNotKeptTo 63 = .ok (.invokevirtual 178, 3) := by decide +kernel
theorem dX1_pupilsNotKeptTo_66 : decode cX1_pupilsNotKeptTo 66 = .ok (.ifCond .eq 6, 3) := by decide +kernel
theorem dX1_pupilsNotKeptTo_69 : decode cX1_pupilsNotKeptTo 69 = .ok (.iinc 3 1, 3) := by decide +kernel
theorem dX1_pupilsNotKeptTo_72 : decode cX1_pupilsNotKeptTo 72 = .ok (.iinc 4 1, 3) := by decide +kernel
theorem dX1_pupilsNotKeptTo_75 : decode cX1_pupilsNotKeptTo 75 = .ok (.goto (-70), 3) := by decide +kernel
theorem dX1_pupilsNotKeptTo_78 : decode cX1_pupilsNotKeptTo 78 = .ok (.iload_n 3, 1) := by decide +kernel
theorem dX1_pupilsNotKeptTo_79 : decode cX1_pupilsNotKeptTo 79 = .ok (.ireturn, 1) := by decide +kernel
theorem dX1_mayMeetOutside_0 : decode cX1_mayMeetOutside 0 = .ok (.iconst 0, 1) := by decide +kernel
theorem dX1_mayMeetOutside_1 : decode cX1_mayMeetOutside 1 = .ok (.istore_n 3, 1) := by decide +kernel
theorem dX1_mayMeetOutside_2 : decode cX1_mayMeetOutside 2 = .ok (.iload_n 3, 1) := by decide +kernel
theorem dX1_mayMeetOutside_3 : decode cX1_mayMeetOutside 3 = .ok (.aload_n 0, 1) := by decide +kernel
theorem dX1_mayMeetOutside_4 : decode cX1_mayMeetOutside 4 = .ok (.getfield 15, 3) := by decide +kernel
theorem dX1_mayMeetOutside_7 : decode cX1_mayMeetOutside 7 = .ok (.if_icmp .ge 28, 3) := by decide +kernel
theorem dX1_mayMeetOutside_10 : decode cX1_mayMeetOutside 10 = .ok (.iload_n 2, 1) := by decide +kernel
theorem dX1_mayMeetOutside_11 : decode cX1_mayMeetOutside 11 = .ok (.iload_n 3, 1) := by decide +kernel
theorem dX1_mayMeetOutside_12 : decode cX1_mayMeetOutside 12 = .ok (.invokestatic 175, 3) := by decide +kernel
theorem dX1_mayMeetOutside_15 : decode cX1_mayMeetOutside 15 = .ok (.ifCond .ne 14, 3) := by decide +kernel
theorem dX1_mayMeetOutside_18 : decode cX1_mayMeetOutside 18 = .ok (.aload_n 0, 1) := by decide +kernel
theorem dX1_mayMeetOutside_19 : decode cX1_mayMeetOutside 19 = .ok (.iload_n 1, 1) := by decide +kernel
theorem dX1_mayMeetOutside_20 : decode cX1_mayMeetOutside 20 = .ok (.iload_n 3, 1) := by decide +kernel
theorem dX1_mayMeetOutside_21 : decode cX1_mayMeetOutside 21 = .ok (.invokevirtual 163, 3) := by decide +kernel
theorem dX1_mayMeetOutside_24 : decode cX1_mayMeetOutside 24 = .ok (.ifCond .eq 5, 3) := by decide +kernel
theorem dX1_mayMeetOutside_27 : decode cX1_mayMeetOutside 27 = .ok (.iconst 1, 1) := by decide +kernel
theorem dX1_mayMeetOutside_28 : decode cX1_mayMeetOutside 28 = .ok (.ireturn, 1) := by decide +kernel
theorem dX1_mayMeetOutside_29 : decode cX1_mayMeetOutside 29 = .ok (.iinc 3 1, 3) := by decide +kernel
theorem dX1_mayMeetOutside_32 : decode cX1_mayMeetOutside 32 = .ok (.goto (-30), 3) := by decide +kernel
theorem dX1_mayMeetOutside_35 : decode cX1_mayMeetOutside 35 = .ok (.iconst 0, 1) := by decide +kernel
theorem dX1_mayMeetOutside_36 : decode cX1_mayMeetOutside 36 = .ok (.ireturn, 1) := by decide +kernel
theorem dX1_isInGroup_0 : decode cX1_isInGroup 0 = .ok (.iload_n 0, 1) := by decide +kernel
theorem dX1_isInGroup_1 : decode cX1_isInGroup 1 = .ok (.iload_n 1, 1) := by decide +kernel
theorem dX1_isInGroup_2 : decode cX1_isInGroup 2 = .ok (.ishr, 1) := by decide +kernel
theorem dX1_isInGroup_3 : decode cX1_isInGroup 3 = .ok (.iconst 1, 1) := by decide +kernel
theorem dX1_isInGroup_4 : decode cX1_isInGroup 4 = .ok (.iand, 1) := by decide +kernel
theorem dX1_isInGroup_5 : decode cX1_isInGroup 5 = .ok (.iconst 1, 1) := by decide +kernel
theorem dX1_isInGroup_6 : decode cX1_isInGroup 6 = .ok (.if_icmp .ne 7, 3) := by decide +kernel
theorem dX1_isInGroup_9 : decode cX1_isInGroup 9 = .ok (.iconst 1, 1) := by decide +kernel
theorem dX1_isInGroup_10 : decode cX1_isInGroup 10 = .ok (.goto 4, 3) := by decide +kernel
theorem dX1_isInGroup_13 : decode cX1_isInGroup 13 = .ok (.iconst 0, 1) := by decide +kernel
theorem dX1_isInGroup_14 : decode cX1_isInGroup 14 = .ok (.ireturn, 1) := by decide +kernel
theorem dX1_pupilProperty_0 : decode cX1_pupilProperty 0 = .ok (.aload_n 0, 1) := by decide +kernel
theorem dX1_pupilProperty_1 : decode cX1_pupilProperty 1 = .ok (.getfield 39, 3) := by decide +kernel
theorem dX1_pupilProperty_4 : decode cX1_pupilProperty 4 = .ok (.iload_n 1, 1) := by decide +kernel
theorem dX1_pupilProperty_5 : decode cX1_pupilProperty 5 = .ok (.aaload, 1) := by decide +kernel
theorem dX1_pupilProperty_6 : decode cX1_pupilProperty 6 = .ok (.astore_n 3, 1) := by decide +kernel
theorem dX1_pupilProperty_7 : decode cX1_pupilProperty 7 = .ok (.iload_n 2, 1) := by decide +kernel
theorem dX1_pupilProperty_8 : decode cX1_pupilProperty 8 = .ok (.tableswitch 101 0 10 #[60, 65, 70, 75, 80, 101, 101, 101, 85, 90, 96], 60) := by decide +kernel
theorem dX1_pupilProperty_68 : decode cX1_pupilProperty 68 = .ok (.aload_n 3, 1) := by decide +kernel
theorem dX1_pupilProperty_69 : decode cX1_pupilProperty 69 = .ok (.getfield 83, 3) := by decide +kernel
theorem dX1_pupilProperty_72 : decode cX1_pupilProperty 72 = .ok (.ireturn, 1) := by decide +kernel
theorem dX1_pupilProperty_73 : decode cX1_pupilProperty 73 = .ok (.aload_n 3, 1) := by decide +kernel
theorem dX1_pupilProperty_74 : decode cX1_pupilProperty 74 = .ok (.getfield 138, 3) := by decide +kernel
theorem dX1_pupilProperty_77 : decode cX1_pupilProperty 77 = .ok (.ireturn, 1) := by decide +kernel
theorem dX1_pupilProperty_78 : decode cX1_pupilProperty 78 = .ok (.aload_n 3, 1) := by decide +kernel
theorem dX1_pupilProperty_79 : decode cX1_pupilProperty 79 = .ok (.getfield 80, 3) := by decide +kernel
theorem dX1_pupilProperty_82 : decode cX1_pupilProperty 82 = .ok (.ireturn, 1) := by decide +kernel
theorem dX1_pupilProperty_83 : decode cX1_pupilProperty 83 = .ok (.aload_n 3, 1) := by decide +kernel
theorem dX1_pupilProperty_84 : decode cX1_pupilProperty 84 = .ok (.getfield 129, 3) := by decide +kernel
theorem dX1_pupilProperty_87 : decode cX1_pupilProperty 87 = .ok (.ireturn, 1) := by decide +kernel
theorem dX1_pupilProperty_88 : decode cX1_pupilProperty 88 = .ok (.aload_n 3, 1) := by decide +kernel
theorem dX1_pupilProperty_89 : decode cX1_pupilProperty 89 = .ok (.getfield 132, 3) := by decide +kernel
theorem dX1_pupilProperty_92 : decode cX1_pupilProperty 92 = .ok (.ireturn, 1) := by decide +kernel
theorem dX1_pupilProperty_93 : decode cX1_pupilProperty 93 = .ok (.aload_n 3, 1) := by decide +kernel
theorem dX1_pupilProperty_94 : decode cX1_pupilProperty 94 = .ok (.getfield 114, 3) := by decide +kernel
theorem dX1_pupilProperty_97 : decode cX1_pupilProperty 97 = .ok (.ireturn, 1) := by decide +kernel
theorem dX1_pupilProperty_98 : decode cX1_pupilProperty 98 = .ok (.aload_n 0, 1) := by decide +kernel
theorem dX1_pupilProperty_99 : decode cX1_pupilProperty 99 = .ok (.iload_n 1, 1) := by decide +kernel
theorem dX1_pupilProperty_100 : decode cX1_pupilProperty 100 = .ok (.invokevirtual 149, 3) := by decide +kernel
theorem dX1_pupilProperty_103 : decode cX1_pupilProperty 103 = .ok (.ireturn, 1) := by decide +kernel
theorem dX1_pupilProperty_104 : decode cX1_pupilProperty 104 = .ok (.aload_n 3, 1) := by decide +kernel
theorem dX1_pupilProperty_105 : decode cX1_pupilProperty 105 = .ok (.getfield 89, 3) := by decide +kernel
theorem dX1_pupilProperty_108 : decode cX1_pupilProperty 108 = .ok (.ireturn, 1) := by decide +kernel
theorem dX1_pupilProperty_109 : decode cX1_pupilProperty 109 = .ok (.aload_n 0, 1) := by decide +kernel
theorem dX1_pupilProperty_110 : decode cX1_pupilProperty 110 = .ok (.iload_n 1, 1) := by decide +kernel
theorem dX1_pupilProperty_111 : decode cX1_pupilProperty 111 = .ok (.invokevirtual 95, 3) := by decide +kernel
theorem dX1_pupilProperty_114 : decode cX1_pupilProperty 114 = .ok (.iload_n 2, 1) := by decide +kernel
theorem dX1_pupilProperty_115 : decode cX1_pupilProperty 115 = .ok (.iconst 5, 1) := by decide +kernel
theorem dX1_pupilProperty_116 : decode cX1_pupilProperty 116 = .ok (.isub, 1) := by decide +kernel
theorem dX1_pupilProperty_117 : decode cX1_pupilProperty 117 = .ok (.invokestatic 99, 3) := by decide +kernel
theorem dX1_pupilProperty_120 : decode cX1_pupilProperty 120 = .ok (.ireturn, 1) := by decide +kernel
theorem dX1_examinerProperty_0 : decode cX1_examinerProperty 0 = .ok (.aload_n 0, 1) := by decide +kernel
theorem dX1_examinerProperty_1 : decode cX1_examinerProperty 1 = .ok (.getfield 45, 3) := by decide +kernel
theorem dX1_examinerProperty_4 : decode cX1_examinerProperty 4 = .ok (.iload_n 1, 1) := by decide +kernel
theorem dX1_examinerProperty_5 : decode cX1_examinerProperty 5 = .ok (.aaload, 1) := by decide +kernel
theorem dX1_examinerProperty_6 : decode cX1_examinerProperty 6 = .ok (.astore_n 3, 1) := by decide +kernel
theorem dX1_examinerProperty_7 : decode cX1_examinerProperty 7 = .ok (.iload_n 2, 1) := by decide +kernel
theorem dX1_examinerProperty_8 : decode cX1_examinerProperty 8 = .ok (.tableswitch 66 0 4 #[36, 41, 46, 53, 61], 36) := by decide +kernel
theorem dX1_examinerProperty_44 : decode cX1_examinerProperty 44 = .ok (.aload_n 3, 1) := by decide +kernel
theorem dX1_examinerProperty_45 : decode cX1_examinerProperty 45 = .ok (.invokevirtual 181, 3) := by decide +kernel
theorem dX1_examinerProperty_48 : decode cX1_examinerProperty 48 = .ok (.ireturn, 1) := by decide +kernel
theorem dX1_examinerProperty_49 : decode cX1_examinerProperty 49 = .ok (.aload_n 3, 1) := by decide +kernel
theorem dX1_examinerProperty_50 : decode cX1_examinerProperty 50 = .ok (.getfield 135, 3) := by decide +kernel
theorem dX1_examinerProperty_53 : decode cX1_examinerProperty 53 = .ok (.ireturn, 1) := by decide +kernel
theorem dX1_examinerProperty_54 : decode cX1_examinerProperty 54 = .ok (.aload_n 0, 1) := by decide +kernel
theorem dX1_examinerProperty_55 : decode cX1_examinerProperty 55 = .ok (.iload_n 1, 1) := by decide +kernel
theorem dX1_examinerProperty_56 : decode cX1_examinerProperty 56 = .ok (.iconst (-1), 1) := by decide +kernel
theorem dX1_examinerProperty_57 : decode cX1_examinerProperty 57 = .ok (.invokevirtual 185, 3) := by decide +kernel
theorem dX1_examinerProperty_60 : decode cX1_examinerProperty 60 = .ok (.ireturn, 1) := by decide +kernel
theorem dX1_examinerProperty_61 : decode cX1_examinerProperty 61 = .ok (.aload_n 0, 1) := by decide +kernel
theorem dX1_examinerProperty_62 : decode cX1_examinerProperty 62 = .ok (.iload_n 1, 1) := by decide +kernel
theorem dX1_examinerProperty_63 : decode cX1_examinerProperty 63 = .ok (.bipush (-2), 2) := by decide +kernel
theorem dX1_examinerProperty_65 : decode cX1_examinerProperty 65 = .ok (.invokevirtual 185, 3) := by decide +kernel
theorem dX1_examinerProperty_68 : decode cX1_examinerProperty 68 = .ok (.ireturn, 1) := by decide +kernel
theorem dX1_examinerProperty_69 : decode cX1_examinerProperty 69 = .ok (.aload_n 3, 1) := by decide +kernel
theorem dX1_examinerProperty_70 : decode cX1_examinerProperty 70 = .ok (.getfield 117, 3) := by decide +kernel
theorem dX1_examinerProperty_73 : decode cX1_examinerProperty 73 = .ok (.ireturn, 1) := by decide +kernel
theorem dX1_examinerProperty_74 : decode cX1_examinerProperty 74 = .ok (.aload_n 3, 1) := by decide +kernel
theorem dX1_examinerProperty_75 : decode cX1_examinerProperty 75 = .ok (.getfield 126, 3) := by decide +kernel
theorem dX1_examinerProperty_78 : decode cX1_examinerProperty 78 = .ok (.iload_n 2, 1) := by decide +kernel
theorem dX1_examinerProperty_79 : decode cX1_examinerProperty 79 = .ok (.iconst 5, 1) := by decide +kernel
theorem dX1_examinerProperty_80 : decode cX1_examinerProperty 80 = .ok (.isub, 1) := by decide +kernel
theorem dX1_examinerProperty_81 : decode cX1_examinerProperty 81 = .ok (.iaload, 1) := by decide +kernel
theorem dX1_examinerProperty_82 : decode cX1_examinerProperty 82 = .ok (.ireturn, 1) := by decide +kernel
theorem dX1_cellsOfExaminer_0 : decode cX1_cellsOfExaminer 0 = .ok (.iconst 0, 1) := by decide +kernel
theorem dX1_cellsOfExaminer_1 : decode cX1_cellsOfExaminer 1 = .ok (.istore_n 3, 1) := by decide +kernel
theorem dX1_cellsOfExaminer_2 : decode cX1_cellsOfExaminer 2 = .ok (.iload_n 1, 1) := by decide +kernel
theorem dX1_cellsOfExaminer_3 : decode cX1_cellsOfExaminer 3 = .ok (.istore 4, 2) := by decide +kernel
theorem dX1_cellsOfExaminer_5 : decode cX1_cellsOfExaminer 5 = .ok (.iload 4, 2) := by decide +kernel
theorem dX1_cellsOfExaminer_7 : decode cX1_cellsOfExaminer 7 = .ok (.aload_n 0, 1) := by decide +kernel
theorem dX1_cellsOfExaminer_8 : decode cX1_cellsOfExaminer 8 = .ok (.getfield 34, 3) := by decide +kernel
theorem dX1_cellsOfExaminer_11 : decode cX1_cellsOfExaminer 11 = .ok (.arraylength, 1) := by decide +kernel
theorem dX1_cellsOfExaminer_12 : decode cX1_cellsOfExaminer 12 = .ok (.if_icmp .ge 23, 3) := by decide +kernel
theorem dX1_cellsOfExaminer_15 : decode cX1_cellsOfExaminer 15 = .ok (.aload_n 0, 1) := by decide +kernel
theorem dX1_cellsOfExaminer_16 : decode cX1_cellsOfExaminer 16 = .ok (.getfield 34, 3) := by decide +kernel
theorem dX1_cellsOfExaminer_19 : decode cX1_cellsOfExaminer 19 = .ok (.iload 4, 2) := by decide +kernel
theorem dX1_cellsOfExaminer_21 : decode cX1_cellsOfExaminer 21 = .ok (.iaload, 1) := by decide +kernel
theorem dX1_cellsOfExaminer_22 : decode cX1_cellsOfExaminer 22 = .ok (.iload_n 2, 1) := by decide +kernel
theorem dX1_cellsOfExaminer_23 : decode cX1_cellsOfExaminer 23 = .ok (.if_icmp .ne 6, 3) := by decide +kernel
theorem dX1_cellsOfExaminer_26 : decode cX1_cellsOfExaminer 26 = .ok (.iinc 3 1, 3) := by decide +kernel
theorem dX1_cellsOfExaminer_29 : decode cX1_cellsOfExaminer 29 = .ok (.iinc 4 4, 3) := by decide +kernel
theorem dX1_cellsOfExaminer_32 : decode cX1_cellsOfExaminer 32 = .ok (.goto (-27), 3) := by decide +kernel
theorem dX1_cellsOfExaminer_35 : decode cX1_cellsOfExaminer 35 = .ok (.iload_n 3, 1) := by decide +kernel
theorem dX1_cellsOfExaminer_36 : decode cX1_cellsOfExaminer 36 = .ok (.ireturn, 1) := by decide +kernel
theorem dX1_number_0 : decode cX1_number 0 = .ok (.iload_n 1, 1) := by decide +kernel
theorem dX1_number_1 : decode cX1_number 1 = .ok (.tableswitch 121 0 13 #[71, 76, 81, 121, 121, 121, 121, 86, 91, 96, 101, 106, 111, 116], 71) := by decide +kernel
theorem dX1_number_72 : decode cX1_number 72 = .ok (.aload_n 0, 1) := by decide +kernel
theorem dX1_number_73 : decode cX1_number 73 = .ok (.getfield 9, 3) := by decide +kernel
theorem dX1_number_76 : decode cX1_number 76 = .ok (.ireturn, 1) := by decide +kernel
theorem dX1_number_77 : decode cX1_number 77 = .ok (.aload_n 0, 1) := by decide +kernel
theorem dX1_number_78 : decode cX1_number 78 = .ok (.getfield 15, 3) := by decide +kernel
theorem dX1_number_81 : decode cX1_number 81 = .ok (.ireturn, 1) := by decide +kernel
theorem dX1_number_82 : decode cX1_number 82 = .ok (.aload_n 0, 1) := by decide +kernel
theorem dX1_number_83 : decode cX1_number 83 = .ok (.getfield 18, 3) := by decide +kernel
theorem dX1_number_86 : decode cX1_number 86 = .ok (.ireturn, 1) := by decide +kernel
theorem dX1_number_87 : decode cX1_number 87 = .ok (.aload_n 0, 1) := by decide +kernel
theorem dX1_number_88 : decode cX1_number 88 = .ok (.invokevirtual 188, 3) := by decide +kernel
theorem dX1_number_91 : decode cX1_number 91 = .ok (.ireturn, 1) := by decide +kernel
theorem dX1_number_92 : decode cX1_number 92 = .ok (.aload_n 0, 1) := by decide +kernel
theorem dX1_number_93 : decode cX1_number 93 = .ok (.invokevirtual 191, 3) := by decide +kernel
theorem dX1_number_96 : decode cX1_number 96 = .ok (.ireturn, 1) := by decide +kernel
theorem dX1_number_97 : decode cX1_number 97 = .ok (.aload_n 0, 1) := by decide +kernel
theorem dX1_number_98 : decode cX1_number 98 = .ok (.invokevirtual 194, 3) := by decide +kernel
theorem dX1_number_101 : decode cX1_number 101 = .ok (.ireturn, 1) := by decide +kernel
theorem dX1_number_102 : decode cX1_number 102 = .ok (.aload_n 0, 1) := by decide +kernel
theorem dX1_number_103 : decode cX1_number 103 = .ok (.getfield 24, 3) := by decide +kernel
theorem dX1_number_106 : decode cX1_number 106 = .ok (.ireturn, 1) := by decide +kernel
theorem dX1_number_107 : decode cX1_number 107 = .ok (.aload_n 0, 1) := by decide +kernel
theorem dX1_number_108 : decode cX1_number 108 = .ok (.invokevirtual 197, 3) := by decide +kernel
theorem dX1_number_111 : decode cX1_number 111 = .ok (.ireturn, 1) := by decide +kernel
theorem dX1_number_112 : decode cX1_number 112 = .ok (.aload_n 0, 1) := by decide +kernel
theorem dX1_number_113 : decode cX1_number 113 = .ok (.invokevirtual 200, 3) := by decide +kernel
theorem dX1_number_116 : decode cX1_number 116 = .ok (.ireturn, 1) := by decide +kernel
theorem dX1_number_117 : decode cX1_number 117 = .ok (.aload_n 0, 1) := by decide +kernel
theorem dX1_number_118 : decode cX1_number 118 = .ok (.invokevirtual 203, 3) := by decide +kernel
theorem dX1_number_121 : decode cX1_number 121 = .ok (.ireturn, 1) := by decide +kernel
theorem dX1_number_122 : decode cX1_number 122 = .ok (.aload_n 0, 1) := by decide +kernel
theorem dX1_number_123 : decode cX1_number 123 = .ok (.iload_n 1, 1) := by decide +kernel
theorem dX1_number_124 : decode cX1_number 124 = .ok (.iconst 3, 1) := by decide +kernel
theorem dX1_number_125 : decode cX1_number 125 = .ok (.isub, 1) := by decide +kernel
theorem dX1_number_126 : decode cX1_number 126 = .ok (.invokevirtual 206, 3) := by decide +kernel
theorem dX1_number_129 : decode cX1_number 129 = .ok (.ireturn, 1) := by decide +kernel
theorem dX1_pupilsWho_0 : decode cX1_pupilsWho 0 = .ok (.iconst 0, 1) := by decide +kernel
theorem dX1_pupilsWho_1 : decode cX1_pupilsWho 1 = .ok (.istore_n 2, 1) := by decide +kernel
theorem dX1_pupilsWho_2 : decode cX1_pupilsWho 2 = .ok (.iconst 0, 1) := by decide +kernel
theorem dX1_pupilsWho_3 : decode cX1_pupilsWho 3 = .ok (.istore_n 3, 1) := by decide +kernel
theorem dX1_pupilsWho_4 : decode cX1_pupilsWho 4 = .ok (.iload_n 3, 1) := by decide +kernel
theorem dX1_pupilsWho_5 : decode cX1_pupilsWho 5 = .ok (.aload_n 0, 1) := by decide +kernel
theorem dX1_pupilsWho_6 : decode cX1_pupilsWho 6 = .ok (.getfield 18, 3) := by decide +kernel
theorem dX1_pupilsWho_9 : decode cX1_pupilsWho 9 = .ok (.if_icmp .ge 25, 3) := by decide +kernel
theorem dX1_pupilsWho_12 : decode cX1_pupilsWho 12 = .ok (.aload_n 0, 1) := by decide +kernel
theorem dX1_pupilsWho_13 : decode cX1_pupilsWho 13 = .ok (.getfield 39, 3) := by decide +kernel
theorem dX1_pupilsWho_16 : decode cX1_pupilsWho 16 = .ok (.iload_n 3, 1) := by decide +kernel
theorem dX1_pupilsWho_17 : decode cX1_pupilsWho 17 = .ok (.aaload, 1) := by decide +kernel
theorem dX1_pupilsWho_18 : decode cX1_pupilsWho 18 = .ok (.getfield 83, 3) := by decide +kernel
theorem dX1_pupilsWho_21 : decode cX1_pupilsWho 21 = .ok (.iload_n 1, 1) := by decide +kernel
theorem dX1_pupilsWho_22 : decode cX1_pupilsWho 22 = .ok (.if_icmp .ne 6, 3) := by decide +kernel
theorem dX1_pupilsWho_25 : decode cX1_pupilsWho 25 = .ok (.iinc 2 1, 3) := by decide +kernel
theorem dX1_pupilsWho_28 : decode cX1_pupilsWho 28 = .ok (.iinc 3 1, 3) := by decide +kernel
theorem dX1_pupilsWho_31 : decode cX1_pupilsWho 31 = .ok (.goto (-27), 3) := by decide +kernel
theorem dX1_pupilsWho_34 : decode cX1_pupilsWho 34 = .ok (.iload_n 2, 1) := by decide +kernel
theorem dX1_pupilsWho_35 : decode cX1_pupilsWho 35 = .ok (.ireturn, 1) := by decide +kernel
theorem dX1_testsSoFar_0 : decode cX1_testsSoFar 0 = .ok (.iconst 0, 1) := by decide +kernel
theorem dX1_testsSoFar_1 : decode cX1_testsSoFar 1 = .ok (.istore_n 1, 1) := by decide +kernel
theorem dX1_testsSoFar_2 : decode cX1_testsSoFar 2 = .ok (.iconst 0, 1) := by decide +kernel
theorem dX1_testsSoFar_3 : decode cX1_testsSoFar 3 = .ok (.istore_n 2, 1) := by decide +kernel
theorem dX1_testsSoFar_4 : decode cX1_testsSoFar 4 = .ok (.iload_n 2, 1) := by decide +kernel
theorem dX1_testsSoFar_5 : decode cX1_testsSoFar 5 = .ok (.aload_n 0, 1) := by decide +kernel
theorem dX1_testsSoFar_6 : decode cX1_testsSoFar 6 = .ok (.getfield 15, 3) := by decide +kernel
theorem dX1_testsSoFar_9 : decode cX1_testsSoFar 9 = .ok (.if_icmp .ge 21, 3) := by decide +kernel
theorem dX1_testsSoFar_12 : decode cX1_testsSoFar 12 = .ok (.iload_n 1, 1) := by decide +kernel
theorem dX1_testsSoFar_13 : decode cX1_testsSoFar 13 = .ok (.aload_n 0, 1) := by decide +kernel
theorem dX1_testsSoFar_14 : decode cX1_testsSoFar 14 = .ok (.getfield 45, 3) := by decide +kernel
theorem dX1_testsSoFar_17 : decode cX1_testsSoFar 17 = .ok (.iload_n 2, 1) := by decide +kernel
theorem dX1_testsSoFar_18 : decode cX1_testsSoFar 18 = .ok (.aaload, 1) := by decide +kernel
theorem dX1_testsSoFar_19 : decode cX1_testsSoFar 19 = .ok (.invokevirtual 181, 3) := by decide +kernel
theorem dX1_testsSoFar_22 : decode cX1_testsSoFar 22 = .ok (.iadd, 1) := by decide +kernel
theorem dX1_testsSoFar_23 : decode cX1_testsSoFar 23 = .ok (.istore_n 1, 1) := by decide +kernel
theorem dX1_testsSoFar_24 : decode cX1_testsSoFar 24 = .ok (.iinc 2 1, 3) := by decide +kernel
theorem dX1_testsSoFar_27 : decode cX1_testsSoFar 27 = .ok (.goto (-23), 3) := by decide +kernel
theorem dX1_testsSoFar_30 : decode cX1_testsSoFar 30 = .ok (.iload_n 1, 1) := by decide +kernel
theorem dX1_testsSoFar_31 : decode cX1_testsSoFar 31 = .ok (.ireturn, 1) := by decide +kernel
theorem dX1_passedSoFar_0 : decode cX1_passedSoFar 0 = .ok (.iconst 0, 1) := by decide +kernel
theorem dX1_passedSoFar_1 : decode cX1_passedSoFar 1 = .ok (.istore_n 1, 1) := by decide +kernel
theorem dX1_passedSoFar_2 : decode cX1_passedSoFar 2 = .ok (.iconst 0, 1) := by decide +kernel
theorem dX1_passedSoFar_3 : decode cX1_passedSoFar 3 = .ok (.istore_n 2, 1) := by decide +kernel
theorem dX1_passedSoFar_4 : decode cX1_passedSoFar 4 = .ok (.iload_n 2, 1) := by decide +kernel
theorem dX1_passedSoFar_5 : decode cX1_passedSoFar 5 = .ok (.aload_n 0, 1) := by decide +kernel
theorem dX1_passedSoFar_6 : decode cX1_passedSoFar 6 = .ok (.getfield 15, 3) := by decide +kernel
theorem dX1_passedSoFar_9 : decode cX1_passedSoFar 9 = .ok (.if_icmp .ge 21, 3) := by decide +kernel
theorem dX1_passedSoFar_12 : decode cX1_passedSoFar 12 = .ok (.iload_n 1, 1) := by decide +kernel
theorem dX1_passedSoFar_13 : decode cX1_passedSoFar 13 = .ok (.aload_n 0, 1) := by decide +kernel
theorem dX1_passedSoFar_14 : decode cX1_passedSoFar 14 = .ok (.getfield 45, 3) := by decide +kernel
theorem dX1_passedSoFar_17 : decode cX1_passedSoFar 17 = .ok (.iload_n 2, 1) := by decide +kernel
theorem dX1_passedSoFar_18 : decode cX1_passedSoFar 18 = .ok (.aaload, 1) := by decide +kernel
theorem dX1_passedSoFar_19 : decode cX1_passedSoFar 19 = .ok (.getfield 135, 3) := by decide +kernel
theorem dX1_passedSoFar_22 : decode cX1_passedSoFar 22 = .ok (.iadd, 1) := by decide +kernel
theorem dX1_passedSoFar_23 : decode cX1_passedSoFar 23 = .ok (.istore_n 1, 1) := by decide +kernel
theorem dX1_passedSoFar_24 : decode cX1_passedSoFar 24 = .ok (.iinc 2 1, 3) := by decide +kernel
theorem dX1_passedSoFar_27 : decode cX1_passedSoFar 27 = .ok (.goto (-23), 3) := by decide +kernel
theorem dX1_passedSoFar_30 : decode cX1_passedSoFar 30 = .ok (.iload_n 1, 1) := by decide +kernel
theorem dX1_passedSoFar_31 : decode cX1_passedSoFar 31 = .ok (.ireturn, 1) := by decide +kernel
theorem dX1_movedSoFar_0 : decode cX1_movedSoFar 0 = .ok (.iconst 0, 1) := by decide +kernel
theorem dX1_movedSoFar_1 : decode cX1_movedSoFar 1 = .ok (.istore_n 1, 1) := by decide +kernel
theorem dX1_movedSoFar_2 : decode cX1_movedSoFar 2 = .ok (.iconst 0, 1) := by decide +kernel
theorem dX1_movedSoFar_3 : decode cX1_movedSoFar 3 = .ok (.istore_n 2, 1) := by decide +kernel
theorem dX1_movedSoFar_4 : decode cX1_movedSoFar 4 = .ok (.iload_n 2, 1) := by decide +kernel
theorem dX1_movedSoFar_5 : decode cX1_movedSoFar 5 = .ok (.aload_n 0, 1) := by decide +kernel
theorem dX1_movedSoFar_6 : decode cX1_movedSoFar 6 = .ok (.getfield 18, 3) := by decide +kernel
theorem dX1_movedSoFar_9 : decode cX1_movedSoFar 9 = .ok (.if_icmp .ge 21, 3) := by decide +kernel
theorem dX1_movedSoFar_12 : decode cX1_movedSoFar 12 = .ok (.iload_n 1, 1) := by decide +kernel
theorem dX1_movedSoFar_13 : decode cX1_movedSoFar 13 = .ok (.aload_n 0, 1) := by decide +kernel
theorem dX1_movedSoFar_14 : decode cX1_movedSoFar 14 = .ok (.getfield 39, 3) := by decide +kernel
theorem dX1_movedSoFar_17 : decode cX1_movedSoFar 17 = .ok (.iload_n 2, 1) := by decide +kernel
theorem dX1_movedSoFar_18 : decode cX1_movedSoFar 18 = .ok (.aaload, 1) := by decide +kernel
theorem dX1_movedSoFar_19 : decode cX1_movedSoFar 19 = .ok (.getfield 114, 3) := by decide +kernel
theorem dX1_movedSoFar_22 : decode cX1_movedSoFar 22 = .ok (.iadd, 1) := by decide +kernel
theorem dX1_movedSoFar_23 : decode cX1_movedSoFar 23 = .ok (.istore_n 1, 1) := by decide +kernel
theorem dX1_movedSoFar_24 : decode cX1_movedSoFar 24 = .ok (.iinc 2 1, 3) := by decide +kernel
theorem dX1_movedSoFar_27 : decode cX1_movedSoFar 27 = .ok (.goto (-23), 3) := by decide +kernel
theorem dX1_movedSoFar_30 : decode cX1_movedSoFar 30 = .ok (.iload_n 1, 1) := by decide +kernel
theorem dX1_movedSoFar_31 : decode cX1_movedSoFar 31 = .ok (.ireturn, 1) := by decide +kernel
theorem dX1_moneyTaken_0 : decode cX1_moneyTaken 0 = .ok (.iconst 0, 1) := by decide +kernel
theorem dX1_moneyTaken_1 : decode cX1_moneyTaken 1 = .ok (.istore_n 1, 1) := by decide +kernel
theorem dX1_moneyTaken_2 : decode cX1_moneyTaken 2 = .ok (.iconst 0, 1) := by decide +kernel
theorem dX1_moneyTaken_3 : decode cX1_moneyTaken 3 = .ok (.istore_n 2, 1) := by decide +kernel
theorem dX1_moneyTaken_4 : decode cX1_moneyTaken 4 = .ok (.iload_n 2, 1) := by decide +kernel
theorem dX1_moneyTaken_5 : decode cX1_moneyTaken 5 = .ok (.aload_n 0, 1) := by decide +kernel
theorem dX1_moneyTaken_6 : decode cX1_moneyTaken 6 = .ok (.getfield 18, 3) := by decide +kernel
theorem dX1_moneyTaken_9 : decode cX1_moneyTaken 9 = .ok (.if_icmp .ge 21, 3) := by decide +kernel
theorem dX1_moneyTaken_12 : decode cX1_moneyTaken 12 = .ok (.iload_n 1, 1) := by decide +kernel
theorem dX1_moneyTaken_13 : decode cX1_moneyTaken 13 = .ok (.aload_n 0, 1) := by decide +kernel
theorem dX1_moneyTaken_14 : decode cX1_moneyTaken 14 = .ok (.getfield 39, 3) := by decide +kernel
theorem dX1_moneyTaken_17 : decode cX1_moneyTaken 17 = .ok (.iload_n 2, 1) := by decide +kernel
theorem dX1_moneyTaken_18 : decode cX1_moneyTaken 18 = .ok (.aaload, 1) := by decide +kernel
theorem dX1_moneyTaken_19 : decode cX1_moneyTaken 19 = .ok (.getfield 89, 3) := by decide +kernel
theorem dX1_moneyTaken_22 : decode cX1_moneyTaken 22 = .ok (.iadd, 1) := by decide +kernel
theorem dX1_moneyTaken_23 : decode cX1_moneyTaken 23 = .ok (.istore_n 1, 1) := by decide +kernel
theorem dX1_moneyTaken_24 : decode cX1_moneyTaken 24 = .ok (.iinc 2 1, 3) := by decide +kernel
theorem dX1_moneyTaken_27 : decode cX1_moneyTaken 27 = .ok (.goto (-23), 3) := by decide +kernel
theorem dX1_moneyTaken_30 : decode cX1_moneyTaken 30 = .ok (.iload_n 1, 1) := by decide +kernel
theorem dX1_moneyTaken_31 : decode cX1_moneyTaken 31 = .ok (.ireturn, 1) := by decide +kernel
theorem dX1_freeSlots_0 : decode cX1_freeSlots 0 = .ok (.iconst 0, 1) := by decide +kernel
theorem dX1_freeSlots_1 : decode cX1_freeSlots 1 = .ok (.istore_n 1, 1) := by decide +kernel
theorem dX1_freeSlots_2 : decode cX1_freeSlots 2 = .ok (.iconst 0, 1) := by decide +kernel
theorem dX1_freeSlots_3 : decode cX1_freeSlots 3 = .ok (.istore_n 2, 1) := by decide +kernel
theorem dX1_freeSlots_4 : decode cX1_freeSlots 4 = .ok (.iload_n 2, 1) := by decide +kernel
theorem dX1_freeSlots_5 : decode cX1_freeSlots 5 = .ok (.aload_n 0, 1) := by decide +kernel
theorem dX1_freeSlots_6 : decode cX1_freeSlots 6 = .ok (.getfield 15, 3) := by decide +kernel
theorem dX1_freeSlots_9 : decode cX1_freeSlots 9 = .ok (.if_icmp .ge 18, 3) := by decide +kernel
theorem dX1_freeSlots_12 : decode cX1_freeSlots 12 = .ok (.iload_n 1, 1) := by decide +kernel
theorem dX1_freeSlots_13 : decode cX1_freeSlots 13 = .ok (.aload_n 0, 1) := by decide +kernel
theorem dX1_freeSlots_14 : decode cX1_freeSlots 14 = .ok (.iload_n 2, 1) := by decide +kernel
theorem dX1_freeSlots_15 : decode cX1_freeSlots 15 = .ok (.iconst (-1), 1) := by decide +kernel
theorem dX1_freeSlots_16 : decode cX1_freeSlots 16 = .ok (.invokevirtual 185, 3) := by decide +kernel
theorem dX1_freeSlots_19 : decode cX1_freeSlots 19 = .ok (.iadd, 1) := by decide +kernel
theorem dX1_freeSlots_20 : decode cX1_freeSlots 20 = .ok (.istore_n 1, 1) := by decide +kernel
theorem dX1_freeSlots_21 : decode cX1_freeSlots 21 = .ok (.iinc 2 1, 3) := by decide +kernel
theorem dX1_freeSlots_24 : decode cX1_freeSlots 24 = .ok (.goto (-20), 3) := by decide +kernel
theorem dX1_freeSlots_27 : decode cX1_freeSlots 27 = .ok (.iload_n 1, 1) := by decide +kernel
theorem dX1_freeSlots_28 : decode cX1_freeSlots 28 = .ok (.ireturn, 1) := by decide +kernel
theorem dX1_daysToAllSlots_0 : decode cX1_daysToAllSlots 0 = .ok (.iconst 0, 1) := by decide +kernel
theorem dX1_daysToAllSlots_1 : decode cX1_daysToAllSlots 1 = .ok (.istore_n 1, 1) := by decide +kernel
theorem dX1_daysToAllSlots_2 : decode cX1_daysToAllSlots 2 = .ok (.iconst 0, 1) := by decide +kernel
theorem dX1_daysToAllSlots_3 : decode cX1_daysToAllSlots 3 = .ok (.istore_n 2, 1) := by decide +kernel
theorem dX1_daysToAllSlots_4 : decode cX1_daysToAllSlots 4 = .ok (.iload_n 2, 1) := by decide +kernel
theorem dX1_daysToAllSlots_5 : decode cX1_daysToAllSlots 5 = .ok (.aload_n 0, 1) := by decide +kernel
theorem dX1_daysToAllSlots_6 : decode cX1_daysToAllSlots 6 = .ok (.getfield 34, 3) := by decide +kernel
theorem dX1_daysToAllSlots_9 : decode cX1_daysToAllSlots 9 = .ok (.arraylength, 1) := by decide +kernel
theorem dX1_daysToAllSlots_10 : decode cX1_daysToAllSlots 10 = .ok (.if_icmp .ge 29, 3) := by decide +kernel
theorem dX1_daysToAllSlots_13 : decode cX1_daysToAllSlots 13 = .ok (.aload_n 0, 1) := by decide +kernel
theorem dX1_daysToAllSlots_14 : decode cX1_daysToAllSlots 14 = .ok (.aload_n 0, 1) := by decide +kernel
theorem dX1_daysToAllSlots_15 : decode cX1_daysToAllSlots 15 = .ok (.getfield 34, 3) := by decide +kernel
theorem dX1_daysToAllSlots_18 : decode cX1_daysToAllSlots 18 = .ok (.iload_n 2, 1) := by decide +kernel
theorem dX1_daysToAllSlots_19 : decode cX1_daysToAllSlots 19 = .ok (.iaload, 1) := by decide +kernel
theorem dX1_daysToAllSlots_20 : decode cX1_daysToAllSlots 20 = .ok (.invokevirtual 110, 3) := by decide +kernel
theorem dX1_daysToAllSlots_23 : decode cX1_daysToAllSlots 23 = .ok (.ifCond .eq 10, 3) := by decide +kernel
theorem dX1_daysToAllSlots_26 : decode cX1_daysToAllSlots 26 = .ok (.iload_n 1, 1) := by decide +kernel
theorem dX1_daysToAllSlots_27 : decode cX1_daysToAllSlots 27 = .ok (.iload_n 2, 1) := by decide +kernel
theorem dX1_daysToAllSlots_28 : decode cX1_daysToAllSlots 28 = .ok (.invokestatic 103, 3) := by decide +kernel
theorem dX1_daysToAllSlots_31 : decode cX1_daysToAllSlots 31 = .ok (.iadd, 1) := by decide +kernel
theorem dX1_daysToAllSlots_32 : decode cX1_daysToAllSlots 32 = .ok (.istore_n 1, 1) := by decide +kernel
theorem dX1_daysToAllSlots_33 : decode cX1_daysToAllSlots 33 = .ok (.iinc 2 1, 3) := by decide +kernel
theorem dX1_daysToAllSlots_36 : decode cX1_daysToAllSlots 36 = .ok (.goto (-32), 3) := by decide +kernel
theorem dX1_daysToAllSlots_39 : decode cX1_daysToAllSlots 39 = .ok (.iload_n 1, 1) := by decide +kernel
theorem dX1_daysToAllSlots_40 : decode cX1_daysToAllSlots 40 = .ok (.ireturn, 1) := by decide +kernel
theorem dX2_init_0 : decode cX2_init 0 = .ok (.aload_n 0, 1) := by decide +kernel
theorem dX2_init_1 : decode cX2_init 1 = .ok (.invokespecial 3, 3) := by decide +kernel
theorem dX2_init_4 : decode cX2_init 4 = .ok (.aload_n 0, 1) := by decide +kernel
theorem dX2_init_5 : decode cX2_init 5 = .ok (.bipush 60, 2) := by decide +kernel
theorem dX2_init_7 : decode cX2_init 7 = .ok (.newarray .int, 2) := by decide +kernel
theorem dX2_init_9 : decode cX2_init 9 = .ok (.putfield 9, 3) := by decide +kernel
theorem dX2_init_12 : decode cX2_init 12 = .ok (.aload_n 0, 1) := by decide +kernel
theorem dX2_init_13 : decode cX2_init 13 = .ok (.iconst 0, 1) := by decide +kernel
theorem dX2_init_14 : decode cX2_init 14 = .ok (.putfield 15, 3) := by decide +kernel
theorem dX2_init_17 : decode cX2_init 17 = .ok (.aload_n 0, 1) := by decide +kernel
theorem dX2_init_18 : decode cX2_init 18 = .ok (.iconst 0, 1) := by decide +kernel
theorem dX2_init_19 : decode cX2_init 19 = .ok (.putfield 19, 3) := by decide +kernel
theorem dX2_init_22 : decode cX2_init 22 = .ok (.aload_n 0, 1) := by decide +kernel
theorem dX2_init_23 : decode cX2_init 23 = .ok (.iconst 0, 1) := by decide +kernel
theorem dX2_init_24 : decode cX2_init 24 = .ok (.putfield 22, 3) := by decide +kernel
theorem dX2_init_27 : decode cX2_init 27 = .ok (.aload_n 0, 1) := by decide +kernel
theorem dX2_init_28 : decode cX2_init 28 = .ok (.bipush 60, 2) := by decide +kernel
theorem dX2_init_30 : decode cX2_init 30 = .ok (.newarray .int, 2) := by decide +kernel
theorem dX2_init_32 : decode cX2_init 32 = .ok (.putfield 25, 3) := by decide +kernel
theorem dX2_init_35 : decode cX2_init 35 = .ok (.aload_n 0, 1) := by decide +kernel
theorem dX2_init_36 : decode cX2_init 36 = .ok (.bipush 60, 2) := by decide +kernel
theorem dX2_init_38 : decode cX2_init 38 = .ok (.newarray .int, 2) := by decide +kernel
theorem dX2_init_40 : decode cX2_init 40 = .ok (.putfield 28, 3) := by decide +kernel
theorem dX2_init_43 : decode cX2_init 43 = .ok (.aload_n 0, 1) := by decide +kernel
theorem dX2_init_44 : decode cX2_init 44 = .ok (.bipush 60, 2) := by decide +kernel
theorem dX2_init_46 : decode cX2_init 46 = .ok (.newarray .int, 2) := by decide +kernel
theorem dX2_init_48 : decode cX2_init 48 = .ok (.putfield 31, 3) := by decide +kernel
theorem dX2_init_51 : decode cX2_init 51 = .ok (.return_, 1) := by decide +kernel
theorem dX3_init_0 : decode cX3_init 0 = .ok (.aload_n 0, 1) := by decide +kernel
theorem dX3_init_1 : decode cX3_init 1 = .ok (.invokespecial 3, 3) := by decide +kernel
theorem dX3_init_4 : decode cX3_init 4 = .ok (.aload_n 0, 1) := by decide +kernel
theorem dX3_init_5 : decode cX3_init 5 = .ok (.iconst 0, 1) := by decide +kernel
theorem dX3_init_6 : decode cX3_init 6 = .ok (.putfield 9, 3) := by decide +kernel
theorem dX3_init_9 : decode cX3_init 9 = .ok (.aload_n 0, 1) := by decide +kernel
theorem dX3_init_10 : decode cX3_init 10 = .ok (.iconst 0, 1) := by decide +kernel
theorem dX3_init_11 : decode cX3_init 11 = .ok (.putfield 15, 3) := by decide +kernel
theorem dX3_init_14 : decode cX3_init 14 = .ok (.aload_n 0, 1) := by decide +kernel
theorem dX3_init_15 : decode cX3_init 15 = .ok (.iconst 0, 1) := by decide +kernel
theorem dX3_init_16 : decode cX3_init 16 = .ok (.putfield 18, 3) := by decide +kernel
theorem dX3_init_19 : decode cX3_init 19 = .ok (.aload_n 0, 1) := by decide +kernel
theorem dX3_init_20 : decode cX3_init 20 = .ok (.iconst (-1), 1) := by decide +kernel
theorem dX3_init_21 : decode cX3_init 21 = .ok (.putfield 21, 3) := by decide +kernel
theorem dX3_init_24 : decode cX3_init 24 = .ok (.aload_n 0, 1) := by decide +kernel
theorem dX3_init_25 : decode cX3_init 25 = .ok (.iconst (-1), 1) := by decide +kernel
theorem dX3_init_26 : decode cX3_init 26 = .ok (.putfield 24, 3) := by decide +kernel
theorem dX3_init_29 : decode cX3_init 29 = .ok (.aload_n 0, 1) := by decide +kernel
theorem dX3_init_30 : decode cX3_init 30 = .ok (.iconst 0, 1) := by decide +kernel
theorem dX3_init_31 : decode cX3_init 31 = .ok (.putfield 27, 3) := by decide +kernel
theorem dX3_init_34 : decode cX3_init 34 = .ok (.aload_n 0, 1) := by decide +kernel
theorem dX3_init_35 : decode cX3_init 35 = .ok (.iconst 0, 1) := by decide +kernel
theorem dX3_init_36 : decode cX3_init 36 = .ok (.putfield 30, 3) := by decide +kernel
theorem dX3_init_39 : decode cX3_init 39 = .ok (.aload_n 0, 1) := by decide +kernel
theorem dX3_init_40 : decode cX3_init 40 = .ok (.iconst 0, 1) := by decide +kernel
theorem dX3_init_41 : decode cX3_init 41 = .ok (.putfield 33, 3) := by decide +kernel
theorem dX3_init_44 : decode cX3_init 44 = .ok (.aload_n 0, 1) := by decide +kernel
theorem dX3_init_45 : decode cX3_init 45 = .ok (.iconst 0, 1) := by decide +kernel
theorem dX3_init_46 : decode cX3_init 46 = .ok (.putfield 36, 3) := by decide +kernel
theorem dX3_init_49 : decode cX3_init 49 = .ok (.return_, 1) := by decide +kernel
theorem dX3_copyFrom_0 : decode cX3_copyFrom 0 = .ok (.aload_n 0, 1) := by decide +kernel
theorem dX3_copyFrom_1 : decode cX3_copyFrom 1 = .ok (.aload_n 1, 1) := by decide +kernel
theorem dX3_copyFrom_2 : decode cX3_copyFrom 2 = .ok (.getfield 9, 3) := by decide +kernel
theorem dX3_copyFrom_5 : decode cX3_copyFrom 5 = .ok (.putfield 9, 3) := by decide +kernel
theorem dX3_copyFrom_8 : decode cX3_copyFrom 8 = .ok (.aload_n 0, 1) := by decide +kernel
theorem dX3_copyFrom_9 : decode cX3_copyFrom 9 = .ok (.aload_n 1, 1) := by decide +kernel
theorem dX3_copyFrom_10 : decode cX3_copyFrom 10 = .ok (.getfield 15, 3) := by decide +kernel
theorem dX3_copyFrom_13 : decode cX3_copyFrom 13 = .ok (.putfield 15, 3) := by decide +kernel
theorem dX3_copyFrom_16 : decode cX3_copyFrom 16 = .ok (.aload_n 0, 1) := by decide +kernel
theorem dX3_copyFrom_17 : decode cX3_copyFrom 17 = .ok (.aload_n 1, 1) := by decide +kernel
theorem dX3_copyFrom_18 : decode cX3_copyFrom 18 = .ok (.getfield 18, 3) := by decide +kernel
theorem dX3_copyFrom_21 : decode cX3_copyFrom 21 = .ok (.putfield 18, 3) := by decide +kernel
theorem dX3_copyFrom_24 : decode cX3_copyFrom 24 = .ok (.aload_n 0, 1) := by decide +kernel
theorem dX3_copyFrom_25 : decode cX3_copyFrom 25 = .ok (.aload_n 1, 1) := by decide +kernel
theorem dX3_copyFrom_26 : decode cX3_copyFrom 26 = .ok (.getfield 21, 3) := by decide +kernel
theorem dX3_copyFrom_29 : decode cX3_copyFrom 29 = .ok (.putfield 21, 3) := by decide +kernel
theorem dX3_copyFrom_32 : decode cX3_copyFrom 32 = .ok (.aload_n 0, 1) := by decide +kernel
theorem dX3_copyFrom_33 : decode cX3_copyFrom 33 = .ok (.aload_n 1, 1) := by decide +kernel
theorem dX3_copyFrom_34 : decode cX3_copyFrom 34 = .ok (.getfield 24, 3) := by decide +kernel
theorem dX3_copyFrom_37 : decode cX3_copyFrom 37 = .ok (.putfield 24, 3) := by decide +kernel
theorem dX3_copyFrom_40 : decode cX3_copyFrom 40 = .ok (.aload_n 0, 1) := by decide +kernel
theorem dX3_copyFrom_41 : decode cX3_copyFrom 41 = .ok (.aload_n 1, 1) := by decide +kernel
theorem dX3_copyFrom_42 : decode cX3_copyFrom 42 = .ok (.getfield 27, 3) := by decide +kernel
theorem dX3_copyFrom_45 : decode cX3_copyFrom 45 = .ok (.putfield 27, 3) := by decide +kernel
theorem dX3_copyFrom_48 : decode cX3_copyFrom 48 = .ok (.aload_n 0, 1) := by decide +kernel
theorem dX3_copyFrom_49 : decode cX3_copyFrom 49 = .ok (.aload_n 1, 1) := by decide +kernel
theorem dX3_copyFrom_50 : decode cX3_copyFrom 50 = .ok (.getfield 30, 3) := by decide +kernel
theorem dX3_copyFrom_53 : decode cX3_copyFrom 53 = .ok (.putfield 30, 3) := by decide +kernel
theorem dX3_copyFrom_56 : decode cX3_copyFrom 56 = .ok (.aload_n 0, 1) := by decide +kernel
theorem dX3_copyFrom_57 : decode cX3_copyFrom 57 = .ok (.aload_n 1, 1) := by decide +kernel
theorem dX3_copyFrom_58 : decode cX3_copyFrom 58 = .ok (.getfield 33, 3) := by decide +kernel
theorem dX3_copyFrom_61 : decode cX3_copyFrom 61 = .ok (.putfield 33, 3) := by decide +kernel
theorem dX3_copyFrom_64 : decode cX3_copyFrom 64 = .ok (.aload_n 0, 1) := by decide +kernel
theorem dX3_copyFrom_65 : decode cX3_copyFrom 65 = .ok (.aload_n 1, 1) := by decide +kernel
theorem dX3_copyFrom_66 : decode cX3_copyFrom 66 = .ok (.getfield 36, 3) := by decide +kernel
theorem dX3_copyFrom_69 : decode cX3_copyFrom 69 = .ok (.putfield 36, 3) := by decide +kernel
theorem dX3_copyFrom_72 : decode cX3_copyFrom 72 = .ok (.return_, 1) := by decide +kernel
theorem dX3_comesAheadOf_0 : decode cX3_comesAheadOf 0 = .ok (.aload_n 0, 1) := by decide +kernel
theorem dX3_comesAheadOf_1 : decode cX3_comesAheadOf 1 = .ok (.getfield 27, 3) := by decide +kernel
theorem dX3_comesAheadOf_4 : decode cX3_comesAheadOf 4 = .ok (.aload_n 1, 1) := by decide +kernel
theorem dX3_comesAheadOf_5 : decode cX3_comesAheadOf 5 = .ok (.getfield 27, 3) := by decide +kernel
theorem dX3_comesAheadOf_8 : decode cX3_comesAheadOf 8 = .ok (.if_icmp .gt 25, 3) := by decide +kernel
theorem dX3_comesAheadOf_11 : decode cX3_comesAheadOf 11 = .ok (.aload_n 0, 1) := by decide +kernel
theorem dX3_comesAheadOf_12 : decode cX3_comesAheadOf 12 = .ok (.getfield 27, 3) := by decide +kernel
theorem dX3_comesAheadOf_15 : decode cX3_comesAheadOf 15 = .ok (.aload_n 1, 1) := by decide +kernel
theorem dX3_comesAheadOf_16 : decode cX3_comesAheadOf 16 = .ok (.getfield 27, 3) := by decide +kernel
theorem dX3_comesAheadOf_19 : decode cX3_comesAheadOf 19 = .ok (.if_icmp .ne 18, 3) := by decide +kernel
theorem dX3_comesAheadOf_22 : decode cX3_comesAheadOf 22 = .ok (.aload_n 0, 1) := by decide +kernel
theorem dX3_comesAheadOf_23 : decode cX3_comesAheadOf 23 = .ok (.getfield 30, 3) := by decide +kernel
theorem dX3_comesAheadOf_26 : decode cX3_comesAheadOf 26 = .ok (.aload_n 1, 1) := by decide +kernel
theorem dX3_comesAheadOf_27 : decode cX3_comesAheadOf 27 = .ok (.getfield 30, 3) := by decide +kernel
theorem dX3_comesAheadOf_30 : decode cX3_comesAheadOf 30 = .ok (.if_icmp .ge 7, 3) := by decide +kernel
theorem dX3_comesAheadOf_33 : decode cX3_comesAheadOf 33 = .ok (.iconst 1, 1) := by decide +kernel
theorem dX3_comesAheadOf_34 : decode cX3_comesAheadOf 34 = .ok (.goto 4, 3) := by decide +kernel
theorem dX3_comesAheadOf_37 : decode cX3_comesAheadOf 37 = .ok (.iconst 0, 1) := by decide +kernel
theorem dX3_comesAheadOf_38 : decode cX3_comesAheadOf 38 = .ok (.ireturn, 1) := by decide +kernel
theorem dX4_init_0 : decode cX4_init 0 = .ok (.aload_n 0, 1) := by decide +kernel
theorem dX4_init_1 : decode cX4_init 1 = .ok (.invokespecial 3, 3) := by decide +kernel
theorem dX4_init_4 : decode cX4_init 4 = .ok (.aload_n 0, 1) := by decide +kernel
theorem dX4_init_5 : decode cX4_init 5 = .ok (.new 9, 3) := by decide +kernel
theorem dX4_init_8 : decode cX4_init 8 = .ok (.dup, 1) := by decide +kernel
theorem dX4_init_9 : decode cX4_init 9 = .ok (.invokespecial 11, 3) := by decide +kernel
theorem dX4_init_12 : decode cX4_init 12 = .ok (.putfield 12, 3) := by decide +kernel
theorem dX4_init_15 : decode cX4_init 15 = .ok (.aload_n 0, 1) := by decide +kernel
theorem dX4_init_16 : decode cX4_init 16 = .ok (.new 9, 3) := by decide +kernel
theorem dX4_init_19 : decode cX4_init 19 = .ok (.dup, 1) := by decide +kernel
theorem dX4_init_20 : decode cX4_init 20 = .ok (.invokespecial 11, 3) := by decide +kernel
theorem dX4_init_23 : decode cX4_init 23 = .ok (.putfield 16, 3) := by decide +kernel
theorem dX4_init_26 : decode cX4_init 26 = .ok (.aload_n 0, 1) := by decide +kernel
theorem dX4_init_27 : decode cX4_init 27 = .ok (.bipush 6, 2) := by decide +kernel
theorem dX4_init_29 : decode cX4_init 29 = .ok (.anewarray 9, 3) := by decide +kernel
theorem dX4_init_32 : decode cX4_init 32 = .ok (.putfield 19, 3) := by decide +kernel
theorem dX4_init_35 : decode cX4_init 35 = .ok (.aload_n 0, 1) := by decide +kernel
theorem dX4_init_36 : decode cX4_init 36 = .ok (.iconst 0, 1) := by decide +kernel
theorem dX4_init_37 : decode cX4_init 37 = .ok (.putfield 23, 3) := by decide +kernel
theorem dX4_init_40 : decode cX4_init 40 = .ok (.aload_n 0, 1) := by decide +kernel
theorem dX4_init_41 : decode cX4_init 41 = .ok (.new 27, 3) := by decide +kernel
theorem dX4_init_44 : decode cX4_init 44 = .ok (.dup, 1) := by decide +kernel
theorem dX4_init_45 : decode cX4_init 45 = .ok (.invokespecial 29, 3) := by decide +kernel
theorem dX4_init_48 : decode cX4_init 48 = .ok (.putfield 30, 3) := by decide +kernel
theorem dX4_init_51 : decode cX4_init 51 = .ok (.iconst 0, 1) := by decide +kernel
theorem dX4_init_52 : decode cX4_init 52 = .ok (.istore_n 1, 1) := by decide +kernel
theorem dX4_init_53 : decode cX4_init 53 = .ok (.iload_n 1, 1) := by decide +kernel
theorem dX4_init_54 : decode cX4_init 54 = .ok (.aload_n 0, 1) := by decide +kernel
theorem dX4_init_55 : decode cX4_init 55 = .ok (.getfield 19, 3) := by decide +kernel
theorem dX4_init_58 : decode cX4_init 58 = .ok (.arraylength, 1) := by decide +kernel
theorem dX4_init_59 : decode cX4_init 59 = .ok (.if_icmp .ge 22, 3) := by decide +kernel
theorem dX4_init_62 : decode cX4_init 62 = .ok (.aload_n 0, 1) := by decide +kernel
theorem dX4_init_63 : decode cX4_init 63 = .ok (.getfield 19, 3) := by decide +kernel
theorem dX4_init_66 : decode cX4_init 66 = .ok (.iload_n 1, 1) := by decide +kernel
theorem dX4_init_67 : decode cX4_init 67 = .ok (.new 9, 3) := by decide +kernel
theorem dX4_init_70 : decode cX4_init 70 = .ok (.dup, 1) := by decide +kernel
theorem dX4_init_71 : decode cX4_init 71 = .ok (.invokespecial 11, 3) := by decide +kernel
theorem dX4_init_74 : decode cX4_init 74 = .ok (.aastore, 1) := by decide +kernel
theorem dX4_init_75 : decode cX4_init 75 = .ok (.iinc 1 1, 3) := by decide +kernel
theorem dX4_init_78 : decode cX4_init 78 = .ok (.goto (-25), 3) := by decide +kernel
theorem dX4_init_81 : decode cX4_init 81 = .ok (.return_, 1) := by decide +kernel
theorem dX4_addExaminer_0 : decode cX4_addExaminer 0 = .ok (.aload_n 0, 1) := by decide +kernel
theorem dX4_addExaminer_1 : decode cX4_addExaminer 1 = .ok (.getfield 12, 3) := by decide +kernel
theorem dX4_addExaminer_4 : decode cX4_addExaminer 4 = .ok (.getfield 34, 3) := by decide +kernel
theorem dX4_addExaminer_7 : decode cX4_addExaminer 7 = .ok (.iconst 4, 1) := by decide +kernel
theorem dX4_addExaminer_8 : decode cX4_addExaminer 8 = .ok (.if_icmp .lt 13, 3) := by decide +kernel
theorem dX4_addExaminer_11 : decode cX4_addExaminer 11 = .ok (.new 37, 3) := by decide +kernel
theorem dX4_addExaminer_14 : decode cX4_addExaminer 14 = .ok (.dup, 1) := by decide +kernel
theorem dX4_addExaminer_15 : decode cX4_addExaminer 15 = .ok (.ldc 39, 2) := by decide +kernel
theorem dX4_addExaminer_17 : decode cX4_addExaminer 17 = .ok (.invokespecial 41, 3) := by decide +kernel
theorem dX4_addExaminer_20 : decode cX4_addExaminer 20 = .ok (.athrow, 1) := by decide +kernel
theorem dX4_addExaminer_21 : decode cX4_addExaminer 21 = .ok (.aload_n 0, 1) := by decide +kernel
theorem dX4_addExaminer_22 : decode cX4_addExaminer 22 = .ok (.invokevirtual 44, 3) := by decide +kernel
theorem dX4_addExaminer_25 : decode cX4_addExaminer 25 = .ok (.aload_n 0, 1) := by decide +kernel
theorem dX4_addExaminer_26 : decode cX4_addExaminer 26 = .ok (.getfield 12, 3) := by decide +kernel
theorem dX4_addExaminer_29 : decode cX4_addExaminer 29 = .ok (.invokevirtual 47, 3) := by decide +kernel
theorem dX4_addExaminer_32 : decode cX4_addExaminer 32 = .ok (.ireturn, 1) := by decide +kernel
theorem dX4_addPupil_0 : decode cX4_addPupil 0 = .ok (.aload_n 0, 1) := by decide +kernel
theorem dX4_addPupil_1 : decode cX4_addPupil 1 = .ok (.getfield 12, 3) := by decide +kernel
theorem dX4_addPupil_4 : decode cX4_addPupil 4 = .ok (.getfield 51, 3) := by decide +kernel
theorem dX4_addPupil_7 : decode cX4_addPupil 7 = .ok (.bipush 12, 2) := by decide +kernel
theorem dX4_addPupil_9 : decode cX4_addPupil 9 = .ok (.if_icmp .lt 13, 3) := by decide +kernel
theorem dX4_addPupil_12 : decode cX4_addPupil 12 = .ok (.new 37, 3) := by decide +kernel
theorem dX4_addPupil_15 : decode cX4_addPupil 15 = .ok (.dup, 1) := by decide +kernel
theorem dX4_addPupil_16 : decode cX4_addPupil 16 = .ok (.ldc 54, 2) := by decide +kernel
theorem dX4_addPupil_18 : decode cX4_addPupil 18 = .ok (.invokespecial 41, 3) := by decide +kernel
theorem dX4_addPupil_21 : decode cX4_addPupil 21 = .ok (.athrow, 1) := by decide +kernel
theorem dX4_addPupil_22 : decode cX4_addPupil 22 = .ok (.aload_n 0, 1) := by decide +kernel
theorem dX4_addPupil_23 : decode cX4_addPupil 23 = .ok (.invokevirtual 44, 3) := by decide +kernel
theorem dX4_addPupil_26 : decode cX4_addPupil 26 = .ok (.aload_n 0, 1) := by decide +kernel
theorem dX4_addPupil_27 : decode cX4_addPupil 27 = .ok (.getfield 12, 3) := by decide +kernel
theorem dX4_addPupil_30 : decode cX4_addPupil 30 = .ok (.invokevirtual 56, 3) := by decide +kernel
theorem dX4_addPupil_33 : decode cX4_addPupil 33 = .ok (.ireturn, 1) := by decide +kernel
theorem dX4_ask_0 : decode cX4_ask 0 = .ok (.aload_n 0, 1) := by decide +kernel
theorem dX4_ask_1 : decode cX4_ask 1 = .ok (.getfield 12, 3) := by decide +kernel
theorem dX4_ask_4 : decode cX4_ask 4 = .ok (.iload_n 1, 1) := by decide +kernel
theorem dX4_ask_5 : decode cX4_ask 5 = .ok (.invokevirtual 59, 3) := by decide +kernel
theorem dX4_ask_8 : decode cX4_ask 8 = .ok (.ifCond .ne 13, 3) := by decide +kernel
theorem dX4_ask_11 : decode cX4_ask 11 = .ok (.new 63, 3) := by decide +kernel
theorem dX4_ask_14 : decode cX4_ask 14 = .ok (.dup, 1) := by decide +kernel
theorem dX4_ask_15 : decode cX4_ask 15 = .ok (.ldc 65, 2) := by decide +kernel
theorem dX4_ask_17 : decode cX4_ask 17 = .ok (.invokespecial 67, 3) := by decide +kernel
theorem dX4_ask_20 : decode cX4_ask 20 = .ok (.athrow, 1) := by decide +kernel
theorem dX4_ask_21 : decode cX4_ask 21 = .ok (.aload_n 0, 1) := by decide +kernel
theorem dX4_ask_22 : decode cX4_ask 22 = .ok (.getfield 12, 3) := by decide +kernel
theorem dX4_ask_25 : decode cX4_ask 25 = .ok (.iload_n 1, 1) := by decide +kernel
theorem dX4_ask_26 : decode cX4_ask 26 = .ok (.invokevirtual 68, 3) := by decide +kernel
theorem dX4_ask_29 : decode cX4_ask 29 = .ok (.ifCond .ne 13, 3) := by decide +kernel
theorem dX4_ask_32 : decode cX4_ask 32 = .ok (.new 37, 3) := by decide +kernel
theorem dX4_ask_35 : decode cX4_ask 35 = .ok (.dup, 1) := by decide +kernel
theorem dX4_ask_36 : decode cX4_ask 36 = .ok (.ldc 71, 2) := by decide +kernel
theorem dX4_ask_38 : decode cX4_ask 38 = .ok (.invokespecial 41, 3) := by decide +kernel
theorem dX4_ask_41 : decode cX4_ask 41 = .ok (.athrow, 1) := by decide +kernel
theorem dX4_ask_42 : decode cX4_ask 42 = .ok (.aload_n 0, 1) := by decide +kernel
theorem dX4_ask_43 : decode cX4_ask 43 = .ok (.invokevirtual 44, 3) := by decide +kernel
theorem dX4_ask_46 : decode cX4_ask 46 = .ok (.aload_n 0, 1) := by decide +kernel
theorem dX4_ask_47 : decode cX4_ask 47 = .ok (.getfield 12, 3) := by decide +kernel
theorem dX4_ask_50 : decode cX4_ask 50 = .ok (.iload_n 1, 1) := by decide +kernel
theorem dX4_ask_51 : decode cX4_ask 51 = .ok (.invokevirtual 73, 3) := by decide +kernel
theorem dX4_ask_54 : decode cX4_ask 54 = .ok (.ireturn, 1) := by decide +kernel
theorem dX4_quit_0 : decode cX4_quit 0 = .ok (.aload_n 0, 1) := by decide +kernel
theorem dX4_quit_1 : decode cX4_quit 1 = .ok (.getfield 12, 3) := by decide +kernel
theorem dX4_quit_4 : decode cX4_quit 4 = .ok (.iload_n 1, 1) := by decide +kernel
theorem dX4_quit_5 : decode cX4_quit 5 = .ok (.invokevirtual 59, 3) := by decide +kernel
theorem dX4_quit_8 : decode cX4_quit 8 = .ok (.ifCond .ne 13, 3) := by decide +kernel
theorem dX4_quit_11 : decode cX4_quit 11 = .ok (.new 63, 3) := by decide +kernel
theorem dX4_quit_14 : decode cX4_quit 14 = .ok (.dup, 1) := by decide +kernel
theorem dX4_quit_15 : decode cX4_quit 15 = .ok (.ldc 65, 2) := by decide +kernel
theorem dX4_quit_17 : decode cX4_quit 17 = .ok (.invokespecial 67, 3) := by decide +kernel
theorem dX4_quit_20 : decode cX4_quit 20 = .ok (.athrow, 1) := by decide +kernel
theorem dX4_quit_21 : decode cX4_quit 21 = .ok (.aload_n 0, 1) := by decide +kernel
theorem dX4_quit_22 : decode cX4_quit 22 = .ok (.getfield 12, 3) := by decide +kernel
theorem dX4_quit_25 : decode cX4_quit 25 = .ok (.iload_n 1, 1) := by decide +kernel
theorem dX4_quit_26 : decode cX4_quit 26 = .ok (.invokevirtual 77, 3) := by decide +kernel
theorem dX4_quit_29 : decode cX4_quit 29 = .ok (.ifCond .ne 13, 3) := by decide +kernel
theorem dX4_quit_32 : decode cX4_quit 32 = .ok (.new 37, 3) := by decide +kernel
theorem dX4_quit_35 : decode cX4_quit 35 = .ok (.dup, 1) := by decide +kernel
theorem dX4_quit_36 : decode cX4_quit 36 = .ok (.ldc 80, 2) := by decide +kernel
theorem dX4_quit_38 : decode cX4_quit 38 = .ok (.invokespecial 41, 3) := by decide +kernel
theorem dX4_quit_41 : decode cX4_quit 41 = .ok (.athrow, 1) := by decide +kernel
theorem dX4_quit_42 : decode cX4_quit 42 = .ok (.aload_n 0, 1) := by decide +kernel
theorem dX4_quit_43 : decode cX4_quit 43 = .ok (.invokevirtual 44, 3) := by decide +kernel
theorem dX4_quit_46 : decode cX4_quit 46 = .ok (.aload_n 0, 1) := by decide +kernel
theorem dX4_quit_47 : decode cX4_quit 47 = .ok (.getfield 12, 3) := by decide +kernel
theorem dX4_quit_50 : decode cX4_quit 50 = .ok (.iload_n 1, 1) := by decide +kernel
theorem dX4_quit_51 : decode cX4_quit 51 = .ok (.invokevirtual 82, 3) := by decide +kernel
theorem dX4_quit_54 : decode cX4_quit 54 = .ok (.ireturn, 1) := by decide +kernel
theorem dX4_cancel_0 : decode cX4_cancel 0 = .ok (.aload_n 0, 1) := by decide +kernel
theorem dX4_cancel_1 : decode cX4_cancel 1 = .ok (.getfield 12, 3) := by decide +kernel
theorem dX4_cancel_4 : decode cX4_cancel 4 = .ok (.iload_n 1, 1) := by decide +kernel
theorem dX4_cancel_5 : decode cX4_cancel 5 = .ok (.invokevirtual 85, 3) := by decide +kernel
theorem dX4_cancel_8 : decode cX4_cancel 8 = .ok (.ifCond .ne 13, 3) := by decide +kernel
theorem dX4_cancel_11 : decode cX4_cancel 11 = .ok (.new 63, 3) := by decide +kernel
theorem dX4_cancel_14 : decode cX4_cancel 14 = .ok (.dup, 1) := by decide +kernel
theorem dX4_cancel_15 : decode cX4_cancel 15 = .ok (.ldc 88, 2) := by decide +kernel
theorem dX4_cancel_17 : decode cX4_cancel 17 = .ok (.invokespecial 67, 3) := by decide +kernel
theorem dX4_cancel_20 : decode cX4_cancel 20 = .ok (.athrow, 1) := by decide +kernel
theorem dX4_cancel_21 : decode cX4_cancel 21 = .ok (.iload_n 2, 1) := by decide +kernel
theorem dX4_cancel_22 : decode cX4_cancel 22 = .ok (.iconst 0, 1) := by decide +kernel
theorem dX4_cancel_23 : decode cX4_cancel 23 = .ok (.bipush 9, 2) := by decide +kernel
theorem dX4_cancel_25 : decode cX4_cancel 25 = .ok (.invokestatic 90, 3) := by decide +kernel
theorem dX4_cancel_28 : decode cX4_cancel 28 = .ok (.ifCond .ne 13, 3) := by decide +kernel
theorem dX4_cancel_31 : decode cX4_cancel 31 = .ok (.new 94, 3) := by decide +kernel
theorem dX4_cancel_34 : decode cX4_cancel 34 = .ok (.dup, 1) := by decide +kernel
theorem dX4_cancel_35 : decode cX4_cancel 35 = .ok (.ldc 96, 2) := by decide +kernel
theorem dX4_cancel_37 : decode cX4_cancel 37 = .ok (.invokespecial 98, 3) := by decide +kernel
theorem dX4_cancel_40 : decode cX4_cancel 40 = .ok (.athrow, 1) := by decide +kernel
theorem dX4_cancel_41 : decode cX4_cancel 41 = .ok (.aload_n 0, 1) := by decide +kernel
theorem dX4_cancel_42 : decode cX4_cancel 42 = .ok (.invokevirtual 44, 3) := by decide +kernel
theorem dX4_cancel_45 : decode cX4_cancel 45 = .ok (.aload_n 0, 1) := by decide +kernel
theorem dX4_cancel_46 : decode cX4_cancel 46 = .ok (.getfield 12, 3) := by decide +kernel
theorem dX4_cancel_49 : decode cX4_cancel 49 = .ok (.iload_n 1, 1) := by decide +kernel
theorem dX4_cancel_50 : decode cX4_cancel 50 = .ok (.iload_n 2, 1) := by decide +kernel
theorem dX4_cancel_51 : decode cX4_cancel 51 = .ok (.invokevirtual 99, 3) := by decide +kernel
theorem dX4_cancel_54 : decode cX4_cancel 54 = .ok (.ireturn, 1) := by decide +kernel
theorem dX4_test_0 : decode cX4_test 0 = .ok (.aload_n 0, 1) := by decide +kernel
theorem dX4_test_1 : decode cX4_test 1 = .ok (.getfield 12, 3) := by decide +kernel
theorem dX4_test_4 : decode cX4_test 4 = .ok (.iload_n 1, 1) := by decide +kernel
theorem dX4_test_5 : decode cX4_test 5 = .ok (.invokevirtual 59, 3) := by decide +kernel
theorem dX4_test_8 : decode cX4_test 8 = .ok (.ifCond .ne 13, 3) := by decide +kernel
theorem dX4_test_11 : decode cX4_test 11 = .ok (.new 63, 3) := by decide +kernel
theorem dX4_test_14 : decode cX4_test 14 = .ok (.dup, 1) := by decide +kernel
theorem dX4_test_15 : decode cX4_test 15 = .ok (.ldc 65, 2) := by decide +kernel
theorem dX4_test_17 : decode cX4_test 17 = .ok (.invokespecial 67, 3) := by decide +kernel
theorem dX4_test_20 : decode cX4_test 20 = .ok (.athrow, 1) := by decide +kernel
theorem dX4_test_21 : decode cX4_test 21 = .ok (.aload_n 0, 1) := by decide +kernel
theorem dX4_test_22 : decode cX4_test 22 = .ok (.getfield 12, 3) := by decide +kernel
theorem dX4_test_25 : decode cX4_test 25 = .ok (.iload_n 1, 1) := by decide +kernel
theorem dX4_test_26 : decode cX4_test 26 = .ok (.invokevirtual 103, 3) := by decide +kernel
theorem dX4_test_29 : decode cX4_test 29 = .ok (.ifCond .ne 13, 3) := by decide +kernel
theorem dX4_test_32 : decode cX4_test 32 = .ok (.new 37, 3) := by decide +kernel
theorem dX4_test_35 : decode cX4_test 35 = .ok (.dup, 1) := by decide +kernel
theorem dX4_test_36 : decode cX4_test 36 = .ok (.ldc 106, 2) := by decide +kernel
theorem dX4_test_38 : decode cX4_test 38 = .ok (.invokespecial 41, 3) := by decide +kernel
theorem dX4_test_41 : decode cX4_test 41 = .ok (.athrow, 1) := by decide +kernel
theorem dX4_test_42 : decode cX4_test 42 = .ok (.aload_n 0, 1) := by decide +kernel
theorem dX4_test_43 : decode cX4_test 43 = .ok (.invokevirtual 44, 3) := by decide +kernel
theorem dX4_test_46 : decode cX4_test 46 = .ok (.aload_n 0, 1) := by decide +kernel
theorem dX4_test_47 : decode cX4_test 47 = .ok (.getfield 12, 3) := by decide +kernel
theorem dX4_test_50 : decode cX4_test 50 = .ok (.iload_n 1, 1) := by decide +kernel
theorem dX4_test_51 : decode cX4_test 51 = .ok (.iload_n 2, 1) := by decide +kernel
theorem dX4_test_52 : decode cX4_test 52 = .ok (.invokevirtual 108, 3) := by decide +kernel
theorem dX4_test_55 : decode cX4_test 55 = .ok (.ireturn, 1) := by decide +kernel
theorem dX4_next_0 : decode cX4_next 0 = .ok (.aload_n 0, 1) := by decide +kernel
theorem dX4_next_1 : decode cX4_next 1 = .ok (.getfield 12, 3) := by decide +kernel
theorem dX4_next_4 : decode cX4_next 4 = .ok (.invokevirtual 112, 3) := by decide +kernel
theorem dX4_next_7 : decode cX4_next 7 = .ok (.ifCond .ne 13, 3) := by decide +kernel
theorem dX4_next_10 : decode cX4_next 10 = .ok (.new 37, 3) := by decide +kernel
theorem dX4_next_13 : decode cX4_next 13 = .ok (.dup, 1) := by decide +kernel
theorem dX4_next_14 : decode cX4_next 14 = .ok (.ldc 116, 2) := by decide +kernel
theorem dX4_next_16 : decode cX4_next 16 = .ok (.invokespecial 41, 3) := by decide +kernel
theorem dX4_next_19 : decode cX4_next 19 = .ok (.athrow, 1) := by decide +kernel
theorem dX4_next_20 : decode cX4_next 20 = .ok (.aload_n 0, 1) := by decide +kernel
theorem dX4_next_21 : decode cX4_next 21 = .ok (.invokevirtual 44, 3) := by decide +kernel
theorem dX4_next_24 : decode cX4_next 24 = .ok (.aload_n 0, 1) := by decide +kernel
theorem dX4_next_25 : decode cX4_next 25 = .ok (.getfield 12, 3) := by decide +kernel
theorem dX4_next_28 : decode cX4_next 28 = .ok (.invokevirtual 118, 3) := by decide +kernel
theorem dX4_next_31 : decode cX4_next 31 = .ok (.ireturn, 1) := by decide +kernel
theorem dX4_set_0 : decode cX4_set 0 = .ok (.iload_n 1, 1) := by decide +kernel
theorem dX4_set_1 : decode cX4_set 1 = .ok (.invokestatic 121, 3) := by decide +kernel
theorem dX4_set_4 : decode cX4_set 4 = .ok (.ifCond .ne 13, 3) := by decide +kernel
theorem dX4_set_7 : decode cX4_set 7 = .ok (.new 63, 3) := by decide +kernel
theorem dX4_set_10 : decode cX4_set 10 = .ok (.dup, 1) := by decide +kernel
theorem dX4_set_11 : decode cX4_set 11 = .ok (.ldc 124, 2) := by decide +kernel
theorem dX4_set_13 : decode cX4_set 13 = .ok (.invokespecial 67, 3) := by decide +kernel
theorem dX4_set_16 : decode cX4_set 16 = .ok (.athrow, 1) := by decide +kernel
theorem dX4_set_17 : decode cX4_set 17 = .ok (.iload_n 2, 1) := by decide +kernel
theorem dX4_set_18 : decode cX4_set 18 = .ok (.iconst 0, 1) := by decide +kernel
theorem dX4_set_19 : decode cX4_set 19 = .ok (.getstatic 126, 3) := by decide +kernel
theorem dX4_set_22 : decode cX4_set 22 = .ok (.iload_n 1, 1) := by decide +kernel
theorem dX4_set_23 : decode cX4_set 23 = .ok (.iaload, 1) := by decide +kernel
theorem dX4_set_24 : decode cX4_set 24 = .ok (.invokestatic 90, 3) := by decide +kernel
theorem dX4_set_27 : decode cX4_set 27 = .ok (.ifCond .ne 13, 3) := by decide +kernel
theorem dX4_set_30 : decode cX4_set 30 = .ok (.new 94, 3) := by decide +kernel
theorem dX4_set_33 : decode cX4_set 33 = .ok (.dup, 1) := by decide +kernel
theorem dX4_set_34 : decode cX4_set 34 = .ok (.ldc 130, 2) := by decide +kernel
theorem dX4_set_36 : decode cX4_set 36 = .ok (.invokespecial 98, 3) := by decide +kernel
theorem dX4_set_39 : decode cX4_set 39 = .ok (.athrow, 1) := by decide +kernel
theorem dX4_set_40 : decode cX4_set 40 = .ok (.aload_n 0, 1) := by decide +kernel
theorem dX4_set_41 : decode cX4_set 41 = .ok (.invokevirtual 44, 3) := by decide +kernel
theorem dX4_set_44 : decode cX4_set 44 = .ok (.aload_n 0, 1) := by decide +kernel
theorem dX4_set_45 : decode cX4_set 45 = .ok (.getfield 12, 3) := by decide +kernel
theorem dX4_set_48 : decode cX4_set 48 = .ok (.getfield 132, 3) := by decide +kernel
theorem dX4_set_51 : decode cX4_set 51 = .ok (.iload_n 1, 1) := by decide +kernel
theorem dX4_set_52 : decode cX4_set 52 = .ok (.iaload, 1) := by decide +kernel
theorem dX4_set_53 : decode cX4_set 53 = .ok (.istore_n 3, 1) := by decide +kernel
theorem dX4_set_54 : decode cX4_set 54 = .ok (.aload_n 0, 1) := by decide +kernel
theorem dX4_set_55 : decode cX4_set 55 = .ok (.getfield 12, 3) := by decide +kernel
theorem dX4_set_58 : decode cX4_set 58 = .ok (.getfield 132, 3) := by decide +kernel
theorem dX4_set_61 : decode cX4_set 61 = .ok (.iload_n 1, 1) := by decide +kernel
theorem dX4_set_62 : decode cX4_set 62 = .ok (.iload_n 2, 1) := by decide +kernel
theorem dX4_set_63 : decode cX4_set 63 = .ok (.iastore, 1) := by decide +kernel
theorem dX4_set_64 : decode cX4_set 64 = .ok (.iload_n 3, 1) := by decide +kernel
theorem dX4_set_65 : decode cX4_set 65 = .ok (.ireturn, 1) := by decide +kernel
theorem dX4_undo_0 : decode cX4_undo 0 = .ok (.aload_n 0, 1) := by decide +kernel
theorem dX4_undo_1 : decode cX4_undo 1 = .ok (.getfield 23, 3) := by decide +kernel
theorem dX4_undo_4 : decode cX4_undo 4 = .ok (.iconst 1, 1) := by decide +kernel
theorem dX4_undo_5 : decode cX4_undo 5 = .ok (.aload_n 0, 1) := by decide +kernel
theorem dX4_undo_6 : decode cX4_undo 6 = .ok (.getfield 19, 3) := by decide +kernel
theorem dX4_undo_9 : decode cX4_undo 9 = .ok (.arraylength, 1) := by decide +kernel
theorem dX4_undo_10 : decode cX4_undo 10 = .ok (.invokestatic 90, 3) := by decide +kernel
theorem dX4_undo_13 : decode cX4_undo 13 = .ok (.ifCond .ne 13, 3) := by decide +kernel
theorem dX4_undo_16 : decode cX4_undo 16 = .ok (.new 37, 3) := by decide +kernel
theorem dX4_undo_19 : decode cX4_undo 19 = .ok (.dup, 1) := by decide +kernel
theorem dX4_undo_20 : decode cX4_undo 20 = .ok (.ldc 163, 2) := by decide +kernel
theorem dX4_undo_22 : decode cX4_undo 22 = .ok (.invokespecial 41, 3) := by decide +kernel
theorem dX4_undo_25 : decode cX4_undo 25 = .ok (.athrow, 1) := by decide +kernel
theorem dX4_undo_26 : decode cX4_undo 26 = .ok (.aload_n 0, 1) := by decide +kernel
theorem dX4_undo_27 : decode cX4_undo 27 = .ok (.dup, 1) := by decide +kernel
theorem dX4_undo_28 : decode cX4_undo 28 = .ok (.getfield 23, 3) := by decide +kernel
theorem dX4_undo_31 : decode cX4_undo 31 = .ok (.iconst 1, 1) := by decide +kernel
theorem dX4_undo_32 : decode cX4_undo 32 = .ok (.isub, 1) := by decide +kernel
theorem dX4_undo_33 : decode cX4_undo 33 = .ok (.putfield 23, 3) := by decide +kernel
theorem dX4_undo_36 : decode cX4_undo 36 = .ok (.aload_n 0, 1) := by decide +kernel
theorem dX4_undo_37 : decode cX4_undo 37 = .ok (.getfield 12, 3) := by decide +kernel
theorem dX4_undo_40 : decode cX4_undo 40 = .ok (.aload_n 0, 1) := by decide +kernel
theorem dX4_undo_41 : decode cX4_undo 41 = .ok (.getfield 19, 3) := by decide +kernel
theorem dX4_undo_44 : decode cX4_undo 44 = .ok (.aload_n 0, 1) := by decide +kernel
theorem dX4_undo_45 : decode cX4_undo 45 = .ok (.getfield 23, 3) := by decide +kernel
theorem dX4_undo_48 : decode cX4_undo 48 = .ok (.aaload, 1) := by decide +kernel
theorem dX4_undo_49 : decode cX4_undo 49 = .ok (.invokevirtual 165, 3) := by decide +kernel
theorem dX4_undo_52 : decode cX4_undo 52 = .ok (.aload_n 0, 1) := by decide +kernel
theorem dX4_undo_53 : decode cX4_undo 53 = .ok (.getfield 23, 3) := by decide +kernel
theorem dX4_undo_56 : decode cX4_undo 56 = .ok (.ireturn, 1) := by decide +kernel
theorem dX4_pupil_0 : decode cX4_pupil 0 = .ok (.aload_n 0, 1) := by decide +kernel
theorem dX4_pupil_1 : decode cX4_pupil 1 = .ok (.getfield 12, 3) := by decide +kernel
theorem dX4_pupil_4 : decode cX4_pupil 4 = .ok (.iload_n 1, 1) := by decide +kernel
theorem dX4_pupil_5 : decode cX4_pupil 5 = .ok (.invokevirtual 59, 3) := by decide +kernel
theorem dX4_pupil_8 : decode cX4_pupil 8 = .ok (.ifCond .ne 13, 3) := by decide +kernel
theorem dX4_pupil_11 : decode cX4_pupil 11 = .ok (.new 63, 3) := by decide +kernel
theorem dX4_pupil_14 : decode cX4_pupil 14 = .ok (.dup, 1) := by decide +kernel
theorem dX4_pupil_15 : decode cX4_pupil 15 = .ok (.ldc 65, 2) := by decide +kernel
theorem dX4_pupil_17 : decode cX4_pupil 17 = .ok (.invokespecial 67, 3) := by decide +kernel
theorem dX4_pupil_20 : decode cX4_pupil 20 = .ok (.athrow, 1) := by decide +kernel
theorem dX4_pupil_21 : decode cX4_pupil 21 = .ok (.iload_n 2, 1) := by decide +kernel
theorem dX4_pupil_22 : decode cX4_pupil 22 = .ok (.iconst 0, 1) := by decide +kernel
theorem dX4_pupil_23 : decode cX4_pupil 23 = .ok (.bipush 10, 2) := by decide +kernel
theorem dX4_pupil_25 : decode cX4_pupil 25 = .ok (.invokestatic 90, 3) := by decide +kernel
theorem dX4_pupil_28 : decode cX4_pupil 28 = .ok (.ifCond .ne 13, 3) := by decide +kernel
theorem dX4_pupil_31 : decode cX4_pupil 31 = .ok (.new 94, 3) := by decide +kernel
theorem dX4_pupil_34 : decode cX4_pupil 34 = .ok (.dup, 1) := by decide +kernel
theorem dX4_pupil_35 : decode cX4_pupil 35 = .ok (.ldc 169, 2) := by decide +kernel
theorem dX4_pupil_37 : decode cX4_pupil 37 = .ok (.invokespecial 98, 3) := by decide +kernel
theorem dX4_pupil_40 : decode cX4_pupil 40 = .ok (.athrow, 1) := by decide +kernel
theorem dX4_pupil_41 : decode cX4_pupil 41 = .ok (.aload_n 0, 1) := by decide +kernel
theorem dX4_pupil_42 : decode cX4_pupil 42 = .ok (.getfield 12, 3) := by decide +kernel
theorem dX4_pupil_45 : decode cX4_pupil 45 = .ok (.iload_n 1, 1) := by decide +kernel
theorem dX4_pupil_46 : decode cX4_pupil 46 = .ok (.iload_n 2, 1) := by decide +kernel
theorem dX4_pupil_47 : decode cX4_pupil 47 = .ok (.invokevirtual 171, 3) := by decide +kernel
theorem dX4_pupil_50 : decode cX4_pupil 50 = .ok (.ireturn, 1) := by decide +kernel
theorem dX4_examiner_0 : decode cX4_examiner 0 = .ok (.aload_n 0, 1) := by decide +kernel
theorem dX4_examiner_1 : decode cX4_examiner 1 = .ok (.getfield 12, 3) := by decide +kernel
theorem dX4_examiner_4 : decode cX4_examiner 4 = .ok (.iload_n 1, 1) := by decide +kernel
theorem dX4_examiner_5 : decode cX4_examiner 5 = .ok (.invokevirtual 85, 3) := by decide +kernel
theorem dX4_examiner_8 : decode cX4_examiner 8 = .ok (.ifCond .ne 13, 3) := by decide +kernel
theorem dX4_examiner_11 : decode cX4_examiner 11 = .ok (.new 63, 3) := by decide +kernel
theorem dX4_examiner_14 : decode cX4_examiner 14 = .ok (.dup, 1) := by decide +kernel
theorem dX4_examiner_15 : decode cX4_examiner 15 = .ok (.ldc 88, 2) := by decide +kernel
theorem dX4_examiner_17 : decode cX4_examiner 17 = .ok (.invokespecial 67, 3) := by decide +kernel
theorem dX4_examiner_20 : decode cX4_examiner 20 = .ok (.athrow, 1) := by decide +kernel
theorem dX4_examiner_21 : decode cX4_examiner 21 = .ok (.iload_n 2, 1) := by decide +kernel
theorem dX4_examiner_22 : decode cX4_examiner 22 = .ok (.iconst 0, 1) := by decide +kernel
theorem dX4_examiner_23 : decode cX4_examiner 23 = .ok (.bipush 8, 2) := by decide +kernel
theorem dX4_examiner_25 : decode cX4_examiner 25 = .ok (.invokestatic 90, 3) := by decide +kernel
theorem dX4_examiner_28 : decode cX4_examiner 28 = .ok (.ifCond .ne 13, 3) := by decide +kernel
theorem dX4_examiner_31 : decode cX4_examiner 31 = .ok (.new 94, 3) := by decide +kernel
theorem dX4_examiner_34 : decode cX4_examiner 34 = .ok (.dup, 1) := by decide +kernel
theorem dX4_examiner_35 : decode cX4_examiner 35 = .ok (.ldc 174, 2) := by decide +kernel
theorem dX4_examiner_37 : decode cX4_examiner 37 = .ok (.invokespecial 98, 3) := by decide +kernel
theorem dX4_examiner_40 : decode cX4_examiner 40 = .ok (.athrow, 1) := by decide +kernel
theorem dX4_examiner_41 : decode cX4_examiner 41 = .ok (.aload_n 0, 1) := by decide +kernel
theorem dX4_examiner_42 : decode cX4_examiner 42 = .ok (.getfield 12, 3) := by decide +kernel
theorem dX4_examiner_45 : decode cX4_examiner 45 = .ok (.iload_n 1, 1) := by decide +kernel
theorem dX4_examiner_46 : decode cX4_examiner 46 = .ok (.iload_n 2, 1) := by decide +kernel
theorem dX4_examiner_47 : decode cX4_examiner 47 = .ok (.invokevirtual 176, 3) := by decide +kernel
theorem dX4_examiner_50 : decode cX4_examiner 50 = .ok (.ireturn, 1) := by decide +kernel
theorem dX4_slot_0 : decode cX4_slot 0 = .ok (.aload_n 0, 1) := by decide +kernel
theorem dX4_slot_1 : decode cX4_slot 1 = .ok (.getfield 12, 3) := by decide +kernel
theorem dX4_slot_4 : decode cX4_slot 4 = .ok (.iload_n 1, 1) := by decide +kernel
theorem dX4_slot_5 : decode cX4_slot 5 = .ok (.invokevirtual 85, 3) := by decide +kernel
theorem dX4_slot_8 : decode cX4_slot 8 = .ok (.ifCond .ne 13, 3) := by decide +kernel
theorem dX4_slot_11 : decode cX4_slot 11 = .ok (.new 63, 3) := by decide +kernel
theorem dX4_slot_14 : decode cX4_slot 14 = .ok (.dup, 1) := by decide +kernel
theorem dX4_slot_15 : decode cX4_slot 15 = .ok (.ldc 88, 2) := by decide +kernel
theorem dX4_slot_17 : decode cX4_slot 17 = .ok (.invokespecial 67, 3) := by decide +kernel
theorem dX4_slot_20 : decode cX4_slot 20 = .ok (.athrow, 1) := by decide +kernel
theorem dX4_slot_21 : decode cX4_slot 21 = .ok (.iload_n 2, 1) := by decide +kernel
theorem dX4_slot_22 : decode cX4_slot 22 = .ok (.iconst 0, 1) := by decide +kernel
theorem dX4_slot_23 : decode cX4_slot 23 = .ok (.bipush 9, 2) := by decide +kernel
theorem dX4_slot_25 : decode cX4_slot 25 = .ok (.invokestatic 90, 3) := by decide +kernel
theorem dX4_slot_28 : decode cX4_slot 28 = .ok (.ifCond .eq 12, 3) := by decide +kernel
theorem dX4_slot_31 : decode cX4_slot 31 = .ok (.iload_n 3, 1) := by decide +kernel
theorem dX4_slot_32 : decode cX4_slot 32 = .ok (.iconst 0, 1) := by decide +kernel
theorem dX4_slot_33 : decode cX4_slot 33 = .ok (.iconst 3, 1) := by decide +kernel
theorem dX4_slot_34 : decode cX4_slot 34 = .ok (.invokestatic 90, 3) := by decide +kernel
theorem dX4_slot_37 : decode cX4_slot 37 = .ok (.ifCond .ne 13, 3) := by decide +kernel
theorem dX4_slot_40 : decode cX4_slot 40 = .ok (.new 94, 3) := by decide +kernel
theorem dX4_slot_43 : decode cX4_slot 43 = .ok (.dup, 1) := by decide +kernel
theorem dX4_slot_44 : decode cX4_slot 44 = .ok (.ldc 179, 2) := by decide +kernel
theorem dX4_slot_46 : decode cX4_slot 46 = .ok (.invokespecial 98, 3) := by decide +kernel
theorem dX4_slot_49 : decode cX4_slot 49 = .ok (.athrow, 1) := by decide +kernel
theorem dX4_slot_50 : decode cX4_slot 50 = .ok (.aload_n 0, 1) := by decide +kernel
theorem dX4_slot_51 : decode cX4_slot 51 = .ok (.getfield 12, 3) := by decide +kernel
theorem dX4_slot_54 : decode cX4_slot 54 = .ok (.getfield 181, 3) := by decide +kernel
theorem dX4_slot_57 : decode cX4_slot 57 = .ok (.iload_n 1, 1) := by decide +kernel
theorem dX4_slot_58 : decode cX4_slot 58 = .ok (.iload_n 2, 1) := by decide +kernel
theorem dX4_slot_59 : decode cX4_slot 59 = .ok (.iload_n 3, 1) := by decide +kernel
theorem dX4_slot_60 : decode cX4_slot 60 = .ok (.invokestatic 184, 3) := by decide +kernel
theorem dX4_slot_63 : decode cX4_slot 63 = .ok (.iaload, 1) := by decide +kernel
theorem dX4_slot_64 : decode cX4_slot 64 = .ok (.ireturn, 1) := by decide +kernel
theorem dX4_count_0 : decode cX4_count 0 = .ok (.iload_n 1, 1) := by decide +kernel
theorem dX4_count_1 : decode cX4_count 1 = .ok (.iconst 0, 1) := by decide +kernel
theorem dX4_count_2 : decode cX4_count 2 = .ok (.bipush 14, 2) := by decide +kernel
theorem dX4_count_4 : decode cX4_count 4 = .ok (.invokestatic 90, 3) := by decide +kernel
theorem dX4_count_7 : decode cX4_count 7 = .ok (.ifCond .ne 13, 3) := by decide +kernel
theorem dX4_count_10 : decode cX4_count 10 = .ok (.new 94, 3) := by decide +kernel
theorem dX4_count_13 : decode cX4_count 13 = .ok (.dup, 1) := by decide +kernel
theorem dX4_count_14 : decode cX4_count 14 = .ok (.ldc 188, 2) := by decide +kernel
theorem dX4_count_16 : decode cX4_count 16 = .ok (.invokespecial 98, 3) := by decide +kernel
theorem dX4_count_19 : decode cX4_count 19 = .ok (.athrow, 1) := by decide +kernel
theorem dX4_count_20 : decode cX4_count 20 = .ok (.iload_n 1, 1) := by decide +kernel
theorem dX4_count_21 : decode cX4_count 21 = .ok (.bipush 14, 2) := by decide +kernel
theorem dX4_count_23 : decode cX4_count 23 = .ok (.if_icmp .ne 10, 3) := by decide +kernel
theorem dX4_count_26 : decode cX4_count 26 = .ok (.aload_n 0, 1) := by decide +kernel
theorem dX4_count_27 : decode cX4_count 27 = .ok (.getfield 23, 3) := by decide +kernel
theorem dX4_count_30 : decode cX4_count 30 = .ok (.goto 11, 3) := by decide +kernel
theorem dX4_count_33 : decode cX4_count 33 = .ok (.aload_n 0, 1) := by decide +kernel
theorem dX4_count_34 : decode cX4_count 34 = .ok (.getfield 12, 3) := by decide +kernel
theorem dX4_count_37 : decode cX4_count 37 = .ok (.iload_n 1, 1) := by decide +kernel
theorem dX4_count_38 : decode cX4_count 38 = .ok (.invokevirtual 190, 3) := by decide +kernel
theorem dX4_count_41 : decode cX4_count 41 = .ok (.ireturn, 1) := by decide +kernel
theorem dX4_setting_0 : decode cX4_setting 0 = .ok (.iload_n 1, 1) := by decide +kernel
theorem dX4_setting_1 : decode cX4_setting 1 = .ok (.invokestatic 121, 3) := by decide +kernel
theorem dX4_setting_4 : decode cX4_setting 4 = .ok (.ifCond .ne 13, 3) := by decide +kernel
theorem dX4_setting_7 : decode cX4_setting 7 = .ok (.new 63, 3) := by decide +kernel
theorem dX4_setting_10 : decode cX4_setting 10 = .ok (.dup, 1) := by decide +kernel
theorem dX4_setting_11 : decode cX4_setting 11 = .ok (.ldc 124, 2) := by decide +kernel
theorem dX4_setting_13 : decode cX4_setting 13 = .ok (.invokespecial 67, 3) := by decide +kernel
end
section
theorem dX4_setting_16 : decode cX4_setting 16 = .ok (.athrow, 1) := by decide +kernel
theorem dX4_setting_17 : decode cX4_setting 17 = .ok (.aload_n 0, 1) := by decide +kernel
theorem dX4_setting_18 : decode cX4_setting 18 = .ok (.getfield 12, 3) := by decide +kernel
theorem dX4_setting_21 : decode cX4_setting 21 = .ok (.getfield 132, 3) := by decide +kernel
theorem dX4_setting_24 : decode cX4_setting 24 = .ok (.iload_n 1, 1) := by decide +kernel
theorem dX4_setting_25 : decode cX4_setting 25 = .ok (.iaload, 1) := by decide +kernel
theorem dX4_setting_26 : decode cX4_setting 26 = .ok (.ireturn, 1) := by decide +kernel
theorem dX4_earliest_0 : decode cX4_earliest 0 = .ok (.aload_n 0, 1) := by decide +kernel
theorem dX4_earliest_1 : decode cX4_earliest 1 = .ok (.getfield 12, 3) := by decide +kernel
theorem dX4_earliest_4 : decode cX4_earliest 4 = .ok (.iload_n 1, 1) := by decide +kernel
theorem dX4_earliest_5 : decode cX4_earliest 5 = .ok (.invokevirtual 59, 3) := by decide +kernel
theorem dX4_earliest_8 : decode cX4_earliest 8 = .ok (.ifCond .ne 13, 3) := by decide +kernel
theorem dX4_earliest_11 : decode cX4_earliest 11 = .ok (.new 63, 3) := by decide +kernel
theorem dX4_earliest_14 : decode cX4_earliest 14 = .ok (.dup, 1) := by decide +kernel
theorem dX4_earliest_15 : decode cX4_earliest 15 = .ok (.ldc 65, 2) := by decide +kernel
theorem dX4_earliest_17 : decode cX4_earliest 17 = .ok (.invokespecial 67, 3) := by decide +kernel
theorem dX4_earliest_20 : decode cX4_earliest 20 = .ok (.athrow, 1) := by decide +kernel
theorem dX4_earliest_21 : decode cX4_earliest 21 = .ok (.iload_n 2, 1) := by decide +kernel
theorem dX4_earliest_22 : decode cX4_earliest 22 = .ok (.iconst 0, 1) := by decide +kernel
theorem dX4_earliest_23 : decode cX4_earliest 23 = .ok (.iconst 2, 1) := by decide +kernel
theorem dX4_earliest_24 : decode cX4_earliest 24 = .ok (.invokestatic 90, 3) := by decide +kernel
theorem dX4_earliest_27 : decode cX4_earliest 27 = .ok (.ifCond .ne 13, 3) := by decide +kernel
theorem dX4_earliest_30 : decode cX4_earliest 30 = .ok (.new 94, 3) := by decide +kernel
theorem dX4_earliest_33 : decode cX4_earliest 33 = .ok (.dup, 1) := by decide +kernel
theorem dX4_earliest_34 : decode cX4_earliest 34 = .ok (.ldc 193, 2) := by decide +kernel
theorem dX4_earliest_36 : decode cX4_earliest 36 = .ok (.invokespecial 98, 3) := by decide +kernel
theorem dX4_earliest_39 : decode cX4_earliest 39 = .ok (.athrow, 1) := by decide +kernel
theorem dX4_earliest_40 : decode cX4_earliest 40 = .ok (.aload_n 0, 1) := by decide +kernel
theorem dX4_earliest_41 : decode cX4_earliest 41 = .ok (.getfield 12, 3) := by decide +kernel
theorem dX4_earliest_44 : decode cX4_earliest 44 = .ok (.iload_n 1, 1) := by decide +kernel
theorem dX4_earliest_45 : decode cX4_earliest 45 = .ok (.invokevirtual 195, 3) := by decide +kernel
theorem dX4_earliest_48 : decode cX4_earliest 48 = .ok (.iload_n 2, 1) := by decide +kernel
theorem dX4_earliest_49 : decode cX4_earliest 49 = .ok (.invokestatic 198, 3) := by decide +kernel
theorem dX4_earliest_52 : decode cX4_earliest 52 = .ok (.ireturn, 1) := by decide +kernel
theorem dX4_ifCancelled_0 : decode cX4_ifCancelled 0 = .ok (.aload_n 0, 1) := by decide +kernel
theorem dX4_ifCancelled_1 : decode cX4_ifCancelled 1 = .ok (.getfield 12, 3) := by decide +kernel
theorem dX4_ifCancelled_4 : decode cX4_ifCancelled 4 = .ok (.iload_n 1, 1) := by decide +kernel
theorem dX4_ifCancelled_5 : decode cX4_ifCancelled 5 = .ok (.invokevirtual 85, 3) := by decide +kernel
theorem dX4_ifCancelled_8 : decode cX4_ifCancelled 8 = .ok (.ifCond .ne 13, 3) := by decide +kernel
theorem dX4_ifCancelled_11 : decode cX4_ifCancelled 11 = .ok (.new 63, 3) := by decide +kernel
theorem dX4_ifCancelled_14 : decode cX4_ifCancelled 14 = .ok (.dup, 1) := by decide +kernel
theorem dX4_ifCancelled_15 : decode cX4_ifCancelled 15 = .ok (.ldc 88, 2) := by decide +kernel
theorem dX4_ifCancelled_17 : decode cX4_ifCancelled 17 = .ok (.invokespecial 67, 3) := by decide +kernel
theorem dX4_ifCancelled_20 : decode cX4_ifCancelled 20 = .ok (.athrow, 1) := by decide +kernel
theorem dX4_ifCancelled_21 : decode cX4_ifCancelled 21 = .ok (.iload_n 2, 1) := by decide +kernel
theorem dX4_ifCancelled_22 : decode cX4_ifCancelled 22 = .ok (.iconst 0, 1) := by decide +kernel
theorem dX4_ifCancelled_23 : decode cX4_ifCancelled 23 = .ok (.bipush 9, 2) := by decide +kernel
theorem dX4_ifCancelled_25 : decode cX4_ifCancelled 25 = .ok (.invokestatic 90, 3) := by decide +kernel
theorem dX4_ifCancelled_28 : decode cX4_ifCancelled 28 = .ok (.ifCond .eq 12, 3) := by decide +kernel
theorem dX4_ifCancelled_31 : decode cX4_ifCancelled 31 = .ok (.iload_n 3, 1) := by decide +kernel
theorem dX4_ifCancelled_32 : decode cX4_ifCancelled 32 = .ok (.iconst 0, 1) := by decide +kernel
theorem dX4_ifCancelled_33 : decode cX4_ifCancelled 33 = .ok (.iconst 2, 1) := by decide +kernel
theorem dX4_ifCancelled_34 : decode cX4_ifCancelled 34 = .ok (.invokestatic 90, 3) := by decide +kernel
theorem dX4_ifCancelled_37 : decode cX4_ifCancelled 37 = .ok (.ifCond .ne 13, 3) := by decide +kernel
theorem dX4_ifCancelled_40 : decode cX4_ifCancelled 40 = .ok (.new 94, 3) := by decide +kernel
theorem dX4_ifCancelled_43 : decode cX4_ifCancelled 43 = .ok (.dup, 1) := by decide +kernel
theorem dX4_ifCancelled_44 : decode cX4_ifCancelled 44 = .ok (.ldc 201, 2) := by decide +kernel
theorem dX4_ifCancelled_46 : decode cX4_ifCancelled 46 = .ok (.invokespecial 98, 3) := by decide +kernel
theorem dX4_ifCancelled_49 : decode cX4_ifCancelled 49 = .ok (.athrow, 1) := by decide +kernel
theorem dX4_ifCancelled_50 : decode cX4_ifCancelled 50 = .ok (.aload_n 0, 1) := by decide +kernel
theorem dX4_ifCancelled_51 : decode cX4_ifCancelled 51 = .ok (.getfield 16, 3) := by decide +kernel
theorem dX4_ifCancelled_54 : decode cX4_ifCancelled 54 = .ok (.aload_n 0, 1) := by decide +kernel
theorem dX4_ifCancelled_55 : decode cX4_ifCancelled 55 = .ok (.getfield 12, 3) := by decide +kernel
theorem dX4_ifCancelled_58 : decode cX4_ifCancelled 58 = .ok (.invokevirtual 165, 3) := by decide +kernel
theorem dX4_ifCancelled_61 : decode cX4_ifCancelled 61 = .ok (.aload_n 0, 1) := by decide +kernel
theorem dX4_ifCancelled_62 : decode cX4_ifCancelled 62 = .ok (.getfield 16, 3) := by decide +kernel
theorem dX4_ifCancelled_65 : decode cX4_ifCancelled 65 = .ok (.iload_n 1, 1) := by decide +kernel
theorem dX4_ifCancelled_66 : decode cX4_ifCancelled 66 = .ok (.iload_n 2, 1) := by decide +kernel
theorem dX4_ifCancelled_67 : decode cX4_ifCancelled 67 = .ok (.invokevirtual 99, 3) := by decide +kernel
theorem dX4_ifCancelled_70 : decode cX4_ifCancelled 70 = .ok (.istore 4, 2) := by decide +kernel
theorem dX4_ifCancelled_72 : decode cX4_ifCancelled 72 = .ok (.iload_n 3, 1) := by decide +kernel
theorem dX4_ifCancelled_73 : decode cX4_ifCancelled 73 = .ok (.ifCond .ne 6, 3) := by decide +kernel
theorem dX4_ifCancelled_76 : decode cX4_ifCancelled 76 = .ok (.iload 4, 2) := by decide +kernel
theorem dX4_ifCancelled_78 : decode cX4_ifCancelled 78 = .ok (.ireturn, 1) := by decide +kernel
theorem dX4_ifCancelled_79 : decode cX4_ifCancelled 79 = .ok (.iconst 0, 1) := by decide +kernel
theorem dX4_ifCancelled_80 : decode cX4_ifCancelled 80 = .ok (.istore 5, 2) := by decide +kernel
theorem dX4_ifCancelled_82 : decode cX4_ifCancelled 82 = .ok (.sipush 1000, 3) := by decide +kernel
theorem dX4_ifCancelled_85 : decode cX4_ifCancelled 85 = .ok (.istore 6, 2) := by decide +kernel
theorem dX4_ifCancelled_87 : decode cX4_ifCancelled 87 = .ok (.iconst 0, 1) := by decide +kernel
theorem dX4_ifCancelled_88 : decode cX4_ifCancelled 88 = .ok (.istore 7, 2) := by decide +kernel
theorem dX4_ifCancelled_90 : decode cX4_ifCancelled 90 = .ok (.iload 7, 2) := by decide +kernel
theorem dX4_ifCancelled_92 : decode cX4_ifCancelled 92 = .ok (.iconst 2, 1) := by decide +kernel
theorem dX4_ifCancelled_93 : decode cX4_ifCancelled 93 = .ok (.if_icmp .ge 88, 3) := by decide +kernel
theorem dX4_ifCancelled_96 : decode cX4_ifCancelled 96 = .ok (.aload_n 0, 1) := by decide +kernel
theorem dX4_ifCancelled_97 : decode cX4_ifCancelled 97 = .ok (.getfield 12, 3) := by decide +kernel
theorem dX4_ifCancelled_100 : decode cX4_ifCancelled 100 = .ok (.getfield 181, 3) := by decide +kernel
theorem dX4_ifCancelled_103 : decode cX4_ifCancelled 103 = .ok (.iload_n 1, 1) := by decide +kernel
theorem dX4_ifCancelled_104 : decode cX4_ifCancelled 104 = .ok (.iload_n 2, 1) := by decide +kernel
theorem dX4_ifCancelled_105 : decode cX4_ifCancelled 105 = .ok (.iload 7, 2) := by decide +kernel
theorem dX4_ifCancelled_107 : decode cX4_ifCancelled 107 = .ok (.invokestatic 184, 3) := by decide +kernel
theorem dX4_ifCancelled_110 : decode cX4_ifCancelled 110 = .ok (.iaload, 1) := by decide +kernel
theorem dX4_ifCancelled_111 : decode cX4_ifCancelled 111 = .ok (.istore 8, 2) := by decide +kernel
theorem dX4_ifCancelled_113 : decode cX4_ifCancelled 113 = .ok (.aload_n 0, 1) := by decide +kernel
theorem dX4_ifCancelled_114 : decode cX4_ifCancelled 114 = .ok (.getfield 12, 3) := by decide +kernel
theorem dX4_ifCancelled_117 : decode cX4_ifCancelled 117 = .ok (.iload 8, 2) := by decide +kernel
theorem dX4_ifCancelled_119 : decode cX4_ifCancelled 119 = .ok (.invokevirtual 59, 3) := by decide +kernel
theorem dX4_ifCancelled_122 : decode cX4_ifCancelled 122 = .ok (.ifCond .eq 53, 3) := by decide +kernel
theorem dX4_ifCancelled_125 : decode cX4_ifCancelled 125 = .ok (.aload_n 0, 1) := by decide +kernel
theorem dX4_ifCancelled_126 : decode cX4_ifCancelled 126 = .ok (.getfield 16, 3) := by decide +kernel
theorem dX4_ifCancelled_129 : decode cX4_ifCancelled 129 = .ok (.iload 8, 2) := by decide +kernel
theorem dX4_ifCancelled_131 : decode cX4_ifCancelled 131 = .ok (.invokevirtual 203, 3) := by decide +kernel
theorem dX4_ifCancelled_134 : decode cX4_ifCancelled 134 = .ok (.iconst 0, 1) := by decide +kernel
theorem dX4_ifCancelled_135 : decode cX4_ifCancelled 135 = .ok (.invokestatic 198, 3) := by decide +kernel
theorem dX4_ifCancelled_138 : decode cX4_ifCancelled 138 = .ok (.istore 9, 2) := by decide +kernel
theorem dX4_ifCancelled_140 : decode cX4_ifCancelled 140 = .ok (.iload 5, 2) := by decide +kernel
theorem dX4_ifCancelled_142 : decode cX4_ifCancelled 142 = .ok (.iload 9, 2) := by decide +kernel
theorem dX4_ifCancelled_144 : decode cX4_ifCancelled 144 = .ok (.iconst (-1), 1) := by decide +kernel
theorem dX4_ifCancelled_145 : decode cX4_ifCancelled 145 = .ok (.if_icmp .ne 7, 3) := by decide +kernel
theorem dX4_ifCancelled_148 : decode cX4_ifCancelled 148 = .ok (.iconst 1, 1) := by decide +kernel
theorem dX4_ifCancelled_149 : decode cX4_ifCancelled 149 = .ok (.goto 4, 3) := by decide +kernel
theorem dX4_ifCancelled_152 : decode cX4_ifCancelled 152 = .ok (.iconst 0, 1) := by decide +kernel
theorem dX4_ifCancelled_153 : decode cX4_ifCancelled 153 = .ok (.iadd, 1) := by decide +kernel
theorem dX4_ifCancelled_154 : decode cX4_ifCancelled 154 = .ok (.istore 5, 2) := by decide +kernel
theorem dX4_ifCancelled_156 : decode cX4_ifCancelled 156 = .ok (.iload 6, 2) := by decide +kernel
theorem dX4_ifCancelled_158 : decode cX4_ifCancelled 158 = .ok (.iload 9, 2) := by decide +kernel
theorem dX4_ifCancelled_160 : decode cX4_ifCancelled 160 = .ok (.iconst (-1), 1) := by decide +kernel
theorem dX4_ifCancelled_161 : decode cX4_ifCancelled 161 = .ok (.if_icmp .ne 7, 3) := by decide +kernel
theorem dX4_ifCancelled_164 : decode cX4_ifCancelled 164 = .ok (.iconst 0, 1) := by decide +kernel
theorem dX4_ifCancelled_165 : decode cX4_ifCancelled 165 = .ok (.goto 7, 3) := by decide +kernel
theorem dX4_ifCancelled_168 : decode cX4_ifCancelled 168 = .ok (.iload 9, 2) := by decide +kernel
theorem dX4_ifCancelled_170 : decode cX4_ifCancelled 170 = .ok (.iload_n 2, 1) := by decide +kernel
theorem dX4_ifCancelled_171 : decode cX4_ifCancelled 171 = .ok (.isub, 1) := by decide +kernel
theorem dX4_ifCancelled_172 : decode cX4_ifCancelled 172 = .ok (.iadd, 1) := by decide +kernel
theorem dX4_ifCancelled_173 : decode cX4_ifCancelled 173 = .ok (.istore 6, 2) := by decide +kernel
theorem dX4_ifCancelled_175 : decode cX4_ifCancelled 175 = .ok (.iinc 7 1, 3) := by decide +kernel
theorem dX4_ifCancelled_178 : decode cX4_ifCancelled 178 = .ok (.goto (-88), 3) := by decide +kernel
theorem dX4_ifCancelled_181 : decode cX4_ifCancelled 181 = .ok (.iload_n 3, 1) := by decide +kernel
theorem dX4_ifCancelled_182 : decode cX4_ifCancelled 182 = .ok (.iconst 1, 1) := by decide +kernel
theorem dX4_ifCancelled_183 : decode cX4_ifCancelled 183 = .ok (.if_icmp .ne 8, 3) := by decide +kernel
theorem dX4_ifCancelled_186 : decode cX4_ifCancelled 186 = .ok (.iload 5, 2) := by decide +kernel
theorem dX4_ifCancelled_188 : decode cX4_ifCancelled 188 = .ok (.goto 5, 3) := by decide +kernel
theorem dX4_ifCancelled_191 : decode cX4_ifCancelled 191 = .ok (.iload 6, 2) := by decide +kernel
theorem dX4_ifCancelled_193 : decode cX4_ifCancelled 193 = .ok (.ireturn, 1) := by decide +kernel
theorem dX4_ifTested_0 : decode cX4_ifTested 0 = .ok (.aload_n 0, 1) := by decide +kernel
theorem dX4_ifTested_1 : decode cX4_ifTested 1 = .ok (.getfield 12, 3) := by decide +kernel
theorem dX4_ifTested_4 : decode cX4_ifTested 4 = .ok (.iload_n 1, 1) := by decide +kernel
theorem dX4_ifTested_5 : decode cX4_ifTested 5 = .ok (.invokevirtual 59, 3) := by decide +kernel
theorem dX4_ifTested_8 : decode cX4_ifTested 8 = .ok (.ifCond .eq 14, 3) := by decide +kernel
theorem dX4_ifTested_11 : decode cX4_ifTested 11 = .ok (.aload_n 0, 1) := by decide +kernel
theorem dX4_ifTested_12 : decode cX4_ifTested 12 = .ok (.getfield 12, 3) := by decide +kernel
theorem dX4_ifTested_15 : decode cX4_ifTested 15 = .ok (.iload_n 2, 1) := by decide +kernel
theorem dX4_ifTested_16 : decode cX4_ifTested 16 = .ok (.invokevirtual 85, 3) := by decide +kernel
theorem dX4_ifTested_19 : decode cX4_ifTested 19 = .ok (.ifCond .ne 13, 3) := by decide +kernel
theorem dX4_ifTested_22 : decode cX4_ifTested 22 = .ok (.new 63, 3) := by decide +kernel
theorem dX4_ifTested_25 : decode cX4_ifTested 25 = .ok (.dup, 1) := by decide +kernel
theorem dX4_ifTested_26 : decode cX4_ifTested 26 = .ok (.ldc 206, 2) := by decide +kernel
theorem dX4_ifTested_28 : decode cX4_ifTested 28 = .ok (.invokespecial 67, 3) := by decide +kernel
theorem dX4_ifTested_31 : decode cX4_ifTested 31 = .ok (.athrow, 1) := by decide +kernel
theorem dX4_ifTested_32 : decode cX4_ifTested 32 = .ok (.aload_n 0, 1) := by decide +kernel
theorem dX4_ifTested_33 : decode cX4_ifTested 33 = .ok (.getfield 12, 3) := by decide +kernel
theorem dX4_ifTested_36 : decode cX4_ifTested 36 = .ok (.iload_n 1, 1) := by decide +kernel
theorem dX4_ifTested_37 : decode cX4_ifTested 37 = .ok (.iload_n 2, 1) := by decide +kernel
theorem dX4_ifTested_38 : decode cX4_ifTested 38 = .ok (.invokevirtual 208, 3) := by decide +kernel
theorem dX4_ifTested_41 : decode cX4_ifTested 41 = .ok (.ireturn, 1) := by decide +kernel
theorem dX4_couldHave_0 : decode cX4_couldHave 0 = .ok (.iload_n 1, 1) := by decide +kernel
theorem dX4_couldHave_1 : decode cX4_couldHave 1 = .ok (.iconst 0, 1) := by decide +kernel
theorem dX4_couldHave_2 : decode cX4_couldHave 2 = .ok (.bipush 9, 2) := by decide +kernel
theorem dX4_couldHave_4 : decode cX4_couldHave 4 = .ok (.invokestatic 90, 3) := by decide +kernel
theorem dX4_couldHave_7 : decode cX4_couldHave 7 = .ok (.ifCond .ne 13, 3) := by decide +kernel
theorem dX4_couldHave_10 : decode cX4_couldHave 10 = .ok (.new 94, 3) := by decide +kernel
theorem dX4_couldHave_13 : decode cX4_couldHave 13 = .ok (.dup, 1) := by decide +kernel
theorem dX4_couldHave_14 : decode cX4_couldHave 14 = .ok (.ldc 96, 2) := by decide +kernel
theorem dX4_couldHave_16 : decode cX4_couldHave 16 = .ok (.invokespecial 98, 3) := by decide +kernel
theorem dX4_couldHave_19 : decode cX4_couldHave 19 = .ok (.athrow, 1) := by decide +kernel
theorem dX4_couldHave_20 : decode cX4_couldHave 20 = .ok (.aload_n 0, 1) := by decide +kernel
theorem dX4_couldHave_21 : decode cX4_couldHave 21 = .ok (.getfield 12, 3) := by decide +kernel
theorem dX4_couldHave_24 : decode cX4_couldHave 24 = .ok (.iload_n 1, 1) := by decide +kernel
theorem dX4_couldHave_25 : decode cX4_couldHave 25 = .ok (.invokevirtual 211, 3) := by decide +kernel
theorem dX4_couldHave_28 : decode cX4_couldHave 28 = .ok (.ireturn, 1) := by decide +kernel
theorem dX4_isFromTo_0 : decode cX4_isFromTo 0 = .ok (.iload_n 0, 1) := by decide +kernel
theorem dX4_isFromTo_1 : decode cX4_isFromTo 1 = .ok (.iload_n 1, 1) := by decide +kernel
theorem dX4_isFromTo_2 : decode cX4_isFromTo 2 = .ok (.if_icmp .lt 12, 3) := by decide +kernel
theorem dX4_isFromTo_5 : decode cX4_isFromTo 5 = .ok (.iload_n 0, 1) := by decide +kernel
theorem dX4_isFromTo_6 : decode cX4_isFromTo 6 = .ok (.iload_n 2, 1) := by decide +kernel
theorem dX4_isFromTo_7 : decode cX4_isFromTo 7 = .ok (.if_icmp .gt 7, 3) := by decide +kernel
theorem dX4_isFromTo_10 : decode cX4_isFromTo 10 = .ok (.iconst 1, 1) := by decide +kernel
theorem dX4_isFromTo_11 : decode cX4_isFromTo 11 = .ok (.goto 4, 3) := by decide +kernel
theorem dX4_isFromTo_14 : decode cX4_isFromTo 14 = .ok (.iconst 0, 1) := by decide +kernel
theorem dX4_isFromTo_15 : decode cX4_isFromTo 15 = .ok (.ireturn, 1) := by decide +kernel
theorem dX4_isSetting_0 : decode cX4_isSetting 0 = .ok (.iload_n 0, 1) := by decide +kernel
theorem dX4_isSetting_1 : decode cX4_isSetting 1 = .ok (.iconst 0, 1) := by decide +kernel
theorem dX4_isSetting_2 : decode cX4_isSetting 2 = .ok (.getstatic 250, 3) := by decide +kernel
theorem dX4_isSetting_5 : decode cX4_isSetting 5 = .ok (.arraylength, 1) := by decide +kernel
theorem dX4_isSetting_6 : decode cX4_isSetting 6 = .ok (.iconst 1, 1) := by decide +kernel
theorem dX4_isSetting_7 : decode cX4_isSetting 7 = .ok (.isub, 1) := by decide +kernel
theorem dX4_isSetting_8 : decode cX4_isSetting 8 = .ok (.invokestatic 90, 3) := by decide +kernel
theorem dX4_isSetting_11 : decode cX4_isSetting 11 = .ok (.ireturn, 1) := by decide +kernel
theorem dX4_cellAt_0 : decode cX4_cellAt 0 = .ok (.iload_n 1, 1) := by decide +kernel
theorem dX4_cellAt_1 : decode cX4_cellAt 1 = .ok (.bipush 16, 2) := by decide +kernel
theorem dX4_cellAt_3 : decode cX4_cellAt 3 = .ok (.imul, 1) := by decide +kernel
theorem dX4_cellAt_4 : decode cX4_cellAt 4 = .ok (.iload_n 2, 1) := by decide +kernel
theorem dX4_cellAt_5 : decode cX4_cellAt 5 = .ok (.iconst 4, 1) := by decide +kernel
theorem dX4_cellAt_6 : decode cX4_cellAt 6 = .ok (.imul, 1) := by decide +kernel
theorem dX4_cellAt_7 : decode cX4_cellAt 7 = .ok (.iadd, 1) := by decide +kernel
theorem dX4_cellAt_8 : decode cX4_cellAt 8 = .ok (.iload_n 0, 1) := by decide +kernel
theorem dX4_cellAt_9 : decode cX4_cellAt 9 = .ok (.iadd, 1) := by decide +kernel
theorem dX4_cellAt_10 : decode cX4_cellAt 10 = .ok (.ireturn, 1) := by decide +kernel
theorem dX4_daysTo_0 : decode cX4_daysTo 0 = .ok (.iload_n 0, 1) := by decide +kernel
theorem dX4_daysTo_1 : decode cX4_daysTo 1 = .ok (.bipush 16, 2) := by decide +kernel
theorem dX4_daysTo_3 : decode cX4_daysTo 3 = .ok (.idiv, 1) := by decide +kernel
theorem dX4_daysTo_4 : decode cX4_daysTo 4 = .ok (.ireturn, 1) := by decide +kernel
theorem dX4_examinerAt_0 : decode cX4_examinerAt 0 = .ok (.iload_n 0, 1) := by decide +kernel
theorem dX4_examinerAt_1 : decode cX4_examinerAt 1 = .ok (.iconst 4, 1) := by decide +kernel
theorem dX4_examinerAt_2 : decode cX4_examinerAt 2 = .ok (.irem, 1) := by decide +kernel
theorem dX4_examinerAt_3 : decode cX4_examinerAt 3 = .ok (.ireturn, 1) := by decide +kernel
theorem dX4_partOfCell_0 : decode cX4_partOfCell 0 = .ok (.iload_n 0, 1) := by decide +kernel
theorem dX4_partOfCell_1 : decode cX4_partOfCell 1 = .ok (.iconst (-1), 1) := by decide +kernel
theorem dX4_partOfCell_2 : decode cX4_partOfCell 2 = .ok (.if_icmp .ne 5, 3) := by decide +kernel
theorem dX4_partOfCell_5 : decode cX4_partOfCell 5 = .ok (.iconst (-1), 1) := by decide +kernel
theorem dX4_partOfCell_6 : decode cX4_partOfCell 6 = .ok (.ireturn, 1) := by decide +kernel
theorem dX4_partOfCell_7 : decode cX4_partOfCell 7 = .ok (.iload_n 1, 1) := by decide +kernel
theorem dX4_partOfCell_8 : decode cX4_partOfCell 8 = .ok (.lookupswitch 39 #[(0, 28), (1, 33)], 28) := by decide +kernel
theorem dX4_partOfCell_36 : decode cX4_partOfCell 36 = .ok (.iload_n 0, 1) := by decide +kernel
theorem dX4_partOfCell_37 : decode cX4_partOfCell 37 = .ok (.invokestatic 253, 3) := by decide +kernel
theorem dX4_partOfCell_40 : decode cX4_partOfCell 40 = .ok (.ireturn, 1) := by decide +kernel
theorem dX4_partOfCell_41 : decode cX4_partOfCell 41 = .ok (.iload_n 0, 1) := by decide +kernel
theorem dX4_partOfCell_42 : decode cX4_partOfCell 42 = .ok (.iconst 4, 1) := by decide +kernel
theorem dX4_partOfCell_43 : decode cX4_partOfCell 43 = .ok (.idiv, 1) := by decide +kernel
theorem dX4_partOfCell_44 : decode cX4_partOfCell 44 = .ok (.iconst 4, 1) := by decide +kernel
theorem dX4_partOfCell_45 : decode cX4_partOfCell 45 = .ok (.irem, 1) := by decide +kernel
theorem dX4_partOfCell_46 : decode cX4_partOfCell 46 = .ok (.ireturn, 1) := by decide +kernel
theorem dX4_partOfCell_47 : decode cX4_partOfCell 47 = .ok (.iload_n 0, 1) := by decide +kernel
theorem dX4_partOfCell_48 : decode cX4_partOfCell 48 = .ok (.invokestatic 256, 3) := by decide +kernel
theorem dX4_partOfCell_51 : decode cX4_partOfCell 51 = .ok (.ireturn, 1) := by decide +kernel
theorem dX4_save_0 : decode cX4_save 0 = .ok (.aload_n 0, 1) := by decide +kernel
theorem dX4_save_1 : decode cX4_save 1 = .ok (.getfield 23, 3) := by decide +kernel
theorem dX4_save_4 : decode cX4_save 4 = .ok (.aload_n 0, 1) := by decide +kernel
theorem dX4_save_5 : decode cX4_save 5 = .ok (.getfield 19, 3) := by decide +kernel
theorem dX4_save_8 : decode cX4_save 8 = .ok (.arraylength, 1) := by decide +kernel
theorem dX4_save_9 : decode cX4_save 9 = .ok (.if_icmp .lt 7, 3) := by decide +kernel
theorem dX4_save_12 : decode cX4_save 12 = .ok (.aload_n 0, 1) := by decide +kernel
theorem dX4_save_13 : decode cX4_save 13 = .ok (.invokevirtual 259, 3) := by decide +kernel
theorem dX4_save_16 : decode cX4_save 16 = .ok (.aload_n 0, 1) := by decide +kernel
theorem dX4_save_17 : decode cX4_save 17 = .ok (.getfield 19, 3) := by decide +kernel
theorem dX4_save_20 : decode cX4_save 20 = .ok (.aload_n 0, 1) := by decide +kernel
theorem dX4_save_21 : decode cX4_save 21 = .ok (.getfield 23, 3) := by decide +kernel
theorem dX4_save_24 : decode cX4_save 24 = .ok (.aaload, 1) := by decide +kernel
theorem dX4_save_25 : decode cX4_save 25 = .ok (.aload_n 0, 1) := by decide +kernel
theorem dX4_save_26 : decode cX4_save 26 = .ok (.getfield 12, 3) := by decide +kernel
theorem dX4_save_29 : decode cX4_save 29 = .ok (.invokevirtual 165, 3) := by decide +kernel
theorem dX4_save_32 : decode cX4_save 32 = .ok (.aload_n 0, 1) := by decide +kernel
theorem dX4_save_33 : decode cX4_save 33 = .ok (.dup, 1) := by decide +kernel
theorem dX4_save_34 : decode cX4_save 34 = .ok (.getfield 23, 3) := by decide +kernel
theorem dX4_save_37 : decode cX4_save 37 = .ok (.iconst 1, 1) := by decide +kernel
theorem dX4_save_38 : decode cX4_save 38 = .ok (.iadd, 1) := by decide +kernel
theorem dX4_save_39 : decode cX4_save 39 = .ok (.putfield 23, 3) := by decide +kernel
theorem dX4_save_42 : decode cX4_save 42 = .ok (.return_, 1) := by decide +kernel
theorem dX4_dropOldestSave_0 : decode cX4_dropOldestSave 0 = .ok (.aload_n 0, 1) := by decide +kernel
theorem dX4_dropOldestSave_1 : decode cX4_dropOldestSave 1 = .ok (.getfield 19, 3) := by decide +kernel
theorem dX4_dropOldestSave_4 : decode cX4_dropOldestSave 4 = .ok (.iconst 0, 1) := by decide +kernel
theorem dX4_dropOldestSave_5 : decode cX4_dropOldestSave 5 = .ok (.aaload, 1) := by decide +kernel
theorem dX4_dropOldestSave_6 : decode cX4_dropOldestSave 6 = .ok (.astore_n 1, 1) := by decide +kernel
theorem dX4_dropOldestSave_7 : decode cX4_dropOldestSave 7 = .ok (.iconst 1, 1) := by decide +kernel
theorem dX4_dropOldestSave_8 : decode cX4_dropOldestSave 8 = .ok (.istore_n 2, 1) := by decide +kernel
theorem dX4_dropOldestSave_9 : decode cX4_dropOldestSave 9 = .ok (.iload_n 2, 1) := by decide +kernel
theorem dX4_dropOldestSave_10 : decode cX4_dropOldestSave 10 = .ok (.aload_n 0, 1) := by decide +kernel
theorem dX4_dropOldestSave_11 : decode cX4_dropOldestSave 11 = .ok (.getfield 19, 3) := by decide +kernel
theorem dX4_dropOldestSave_14 : decode cX4_dropOldestSave 14 = .ok (.arraylength, 1) := by decide +kernel
theorem dX4_dropOldestSave_15 : decode cX4_dropOldestSave 15 = .ok (.if_icmp .ge 23, 3) := by decide +kernel
theorem dX4_dropOldestSave_18 : decode cX4_dropOldestSave 18 = .ok (.aload_n 0, 1) := by decide +kernel
theorem dX4_dropOldestSave_19 : decode cX4_dropOldestSave 19 = .ok (.getfield 19, 3) := by decide +kernel
theorem dX4_dropOldestSave_22 : decode cX4_dropOldestSave 22 = .ok (.iload_n 2, 1) := by decide +kernel
theorem dX4_dropOldestSave_23 : decode cX4_dropOldestSave 23 = .ok (.iconst 1, 1) := by decide +kernel
theorem dX4_dropOldestSave_24 : decode cX4_dropOldestSave 24 = .ok (.isub, 1) := by decide +kernel
theorem dX4_dropOldestSave_25 : decode cX4_dropOldestSave 25 = .ok (.aload_n 0, 1) := by decide +kernel
theorem dX4_dropOldestSave_26 : decode cX4_dropOldestSave 26 = .ok (.getfield 19, 3) := by decide +kernel
theorem dX4_dropOldestSave_29 : decode cX4_dropOldestSave 29 = .ok (.iload_n 2, 1) := by decide +kernel
theorem dX4_dropOldestSave_30 : decode cX4_dropOldestSave 30 = .ok (.aaload, 1) := by decide +kernel
theorem dX4_dropOldestSave_31 : decode cX4_dropOldestSave 31 = .ok (.aastore, 1) := by decide +kernel
theorem dX4_dropOldestSave_32 : decode cX4_dropOldestSave 32 = .ok (.iinc 2 1, 3) := by decide +kernel
theorem dX4_dropOldestSave_35 : decode cX4_dropOldestSave 35 = .ok (.goto (-26), 3) := by decide +kernel
theorem dX4_dropOldestSave_38 : decode cX4_dropOldestSave 38 = .ok (.aload_n 0, 1) := by decide +kernel
theorem dX4_dropOldestSave_39 : decode cX4_dropOldestSave 39 = .ok (.getfield 19, 3) := by decide +kernel
theorem dX4_dropOldestSave_42 : decode cX4_dropOldestSave 42 = .ok (.aload_n 0, 1) := by decide +kernel
theorem dX4_dropOldestSave_43 : decode cX4_dropOldestSave 43 = .ok (.getfield 19, 3) := by decide +kernel
theorem dX4_dropOldestSave_46 : decode cX4_dropOldestSave 46 = .ok (.arraylength, 1) := by decide +kernel
theorem dX4_dropOldestSave_47 : decode cX4_dropOldestSave 47 = .ok (.iconst 1, 1) := by decide +kernel
theorem dX4_dropOldestSave_48 : decode cX4_dropOldestSave 48 = .ok (.isub, 1) := by decide +kernel
theorem dX4_dropOldestSave_49 : decode cX4_dropOldestSave 49 = .ok (.aload_n 1, 1) := by decide +kernel
theorem dX4_dropOldestSave_50 : decode cX4_dropOldestSave 50 = .ok (.aastore, 1) := by decide +kernel
theorem dX4_dropOldestSave_51 : decode cX4_dropOldestSave 51 = .ok (.aload_n 0, 1) := by decide +kernel
theorem dX4_dropOldestSave_52 : decode cX4_dropOldestSave 52 = .ok (.aload_n 0, 1) := by decide +kernel
theorem dX4_dropOldestSave_53 : decode cX4_dropOldestSave 53 = .ok (.getfield 19, 3) := by decide +kernel
theorem dX4_dropOldestSave_56 : decode cX4_dropOldestSave 56 = .ok (.arraylength, 1) := by decide +kernel
theorem dX4_dropOldestSave_57 : decode cX4_dropOldestSave 57 = .ok (.iconst 1, 1) := by decide +kernel
theorem dX4_dropOldestSave_58 : decode cX4_dropOldestSave 58 = .ok (.isub, 1) := by decide +kernel
theorem dX4_dropOldestSave_59 : decode cX4_dropOldestSave 59 = .ok (.putfield 23, 3) := by decide +kernel
theorem dX4_dropOldestSave_62 : decode cX4_dropOldestSave 62 = .ok (.return_, 1) := by decide +kernel
theorem dJ9_min_7cf53_0 : decode cJ9_min_7cf53 0 = .ok (.iload_n 0, 1) := by decide +kernel
theorem dJ9_min_7cf53_1 : decode cJ9_min_7cf53 1 = .ok (.iload_n 1, 1) := by decide +kernel
theorem dJ9_min_7cf53_2 : decode cJ9_min_7cf53 2 = .ok (.if_icmp .gt 7, 3) := by decide +kernel
theorem dJ9_min_7cf53_5 : decode cJ9_min_7cf53 5 = .ok (.iload_n 0, 1) := by decide +kernel
theorem dJ9_min_7cf53_6 : decode cJ9_min_7cf53 6 = .ok (.goto 4, 3) := by decide +kernel
theorem dJ9_min_7cf53_9 : decode cJ9_min_7cf53 9 = .ok (.iload_n 1, 1) := by decide +kernel
theorem dJ9_min_7cf53_10 : decode cJ9_min_7cf53 10 = .ok (.ireturn, 1) := by decide +kernel
theorem dJ7_fill_53178_0 : decode cJ7_fill_53178 0 = .ok (.iconst 0, 1) := by decide +kernel
theorem dJ7_fill_53178_1 : decode cJ7_fill_53178 1 = .ok (.istore_n 2, 1) := by decide +kernel
theorem dJ7_fill_53178_2 : decode cJ7_fill_53178 2 = .ok (.aload_n 0, 1) := by decide +kernel
theorem dJ7_fill_53178_3 : decode cJ7_fill_53178 3 = .ok (.arraylength, 1) := by decide +kernel
theorem dJ7_fill_53178_4 : decode cJ7_fill_53178 4 = .ok (.istore_n 3, 1) := by decide +kernel
theorem dJ7_fill_53178_5 : decode cJ7_fill_53178 5 = .ok (.iload_n 2, 1) := by decide +kernel
theorem dJ7_fill_53178_6 : decode cJ7_fill_53178 6 = .ok (.iload_n 3, 1) := by decide +kernel
theorem dJ7_fill_53178_7 : decode cJ7_fill_53178 7 = .ok (.if_icmp .ge 13, 3) := by decide +kernel
theorem dJ7_fill_53178_10 : decode cJ7_fill_53178 10 = .ok (.aload_n 0, 1) := by decide +kernel
theorem dJ7_fill_53178_11 : decode cJ7_fill_53178 11 = .ok (.iload_n 2, 1) := by decide +kernel
theorem dJ7_fill_53178_12 : decode cJ7_fill_53178 12 = .ok (.iload_n 1, 1) := by decide +kernel
theorem dJ7_fill_53178_13 : decode cJ7_fill_53178 13 = .ok (.iastore, 1) := by decide +kernel
theorem dJ7_fill_53178_14 : decode cJ7_fill_53178 14 = .ok (.iinc 2 1, 3) := by decide +kernel
theorem dJ7_fill_53178_17 : decode cJ7_fill_53178 17 = .ok (.goto (-12), 3) := by decide +kernel
theorem dJ7_fill_53178_20 : decode cJ7_fill_53178 20 = .ok (.return_, 1) := by decide +kernel
theorem dL_cell_0 : decode cL_cell 0 = .ok (.iload_n 1, 1) := by decide +kernel
theorem dL_cell_1 : decode cL_cell 1 = .ok (.aload_n 0, 1) := by decide +kernel
theorem dL_cell_2 : decode cL_cell 2 = .ok (.arraylength, 1) := by decide +kernel
theorem dL_cell_3 : decode cL_cell 3 = .ok (.if_icmp .ge 9, 3) := by decide +kernel
theorem dL_cell_6 : decode cL_cell 6 = .ok (.aload_n 0, 1) := by decide +kernel
theorem dL_cell_7 : decode cL_cell 7 = .ok (.iload_n 1, 1) := by decide +kernel
theorem dL_cell_8 : decode cL_cell 8 = .ok (.iaload, 1) := by decide +kernel
theorem dL_cell_9 : decode cL_cell 9 = .ok (.goto 15, 3) := by decide +kernel
theorem dL_cell_12 : decode cL_cell 12 = .ok (.sipush 7919, 3) := by decide +kernel
theorem dL_cell_15 : decode cL_cell 15 = .ok (.iload_n 1, 1) := by decide +kernel
theorem dL_cell_16 : decode cL_cell 16 = .ok (.iconst 3, 1) := by decide +kernel
theorem dL_cell_17 : decode cL_cell 17 = .ok (.iadd, 1) := by decide +kernel
theorem dL_cell_18 : decode cL_cell 18 = .ok (.imul, 1) := by decide +kernel
theorem dL_cell_19 : decode cL_cell 19 = .ok (.iload_n 1, 1) := by decide +kernel
theorem dL_cell_20 : decode cL_cell 20 = .ok (.bipush 11, 2) := by decide +kernel
theorem dL_cell_22 : decode cL_cell 22 = .ok (.iadd, 1) := by decide +kernel
theorem dL_cell_23 : decode cL_cell 23 = .ok (.imul, 1) := by decide +kernel
theorem dL_cell_24 : decode cL_cell 24 = .ok (.ireturn, 1) := by decide +kernel
theorem dL_low_0 : decode cL_low 0 = .ok (.iload_n 0, 1) := by decide +kernel
theorem dL_low_1 : decode cL_low 1 = .ok (.ldc 7, 2) := by decide +kernel
theorem dL_low_3 : decode cL_low 3 = .ok (.iand, 1) := by decide +kernel
theorem dL_low_4 : decode cL_low 4 = .ok (.iload_n 1, 1) := by decide +kernel
theorem dL_low_5 : decode cL_low 5 = .ok (.irem, 1) := by decide +kernel
theorem dL_low_6 : decode cL_low 6 = .ok (.ireturn, 1) := by decide +kernel
theorem dL_does_0 : decode cL_does 0 = .ok (.aload_n 0, 1) := by decide +kernel
theorem dL_does_1 : decode cL_does 1 = .ok (.iconst 2, 1) := by decide +kernel
theorem dL_does_2 : decode cL_does 2 = .ok (.invokevirtual 8, 3) := by decide +kernel
theorem dL_does_5 : decode cL_does 5 = .ok (.istore_n 2, 1) := by decide +kernel
theorem dL_does_6 : decode cL_does 6 = .ok (.aload_n 0, 1) := by decide +kernel
theorem dL_does_7 : decode cL_does 7 = .ok (.iconst 1, 1) := by decide +kernel
theorem dL_does_8 : decode cL_does 8 = .ok (.invokevirtual 8, 3) := by decide +kernel
theorem dL_does_11 : decode cL_does 11 = .ok (.istore_n 3, 1) := by decide +kernel
theorem dL_does_12 : decode cL_does 12 = .ok (.iload_n 2, 1) := by decide +kernel
theorem dL_does_13 : decode cL_does 13 = .ok (.ifCond .ne 7, 3) := by decide +kernel
theorem dL_does_16 : decode cL_does 16 = .ok (.iconst 0, 1) := by decide +kernel
theorem dL_does_17 : decode cL_does 17 = .ok (.goto 10, 3) := by decide +kernel
theorem dL_does_20 : decode cL_does 20 = .ok (.iload_n 1, 1) := by decide +kernel
theorem dL_does_21 : decode cL_does 21 = .ok (.iconst 4, 1) := by decide +kernel
theorem dL_does_22 : decode cL_does 22 = .ok (.ishr, 1) := by decide +kernel
theorem dL_does_23 : decode cL_does 23 = .ok (.iload_n 2, 1) := by decide +kernel
theorem dL_does_24 : decode cL_does 24 = .ok (.invokestatic 14, 3) := by decide +kernel
theorem dL_does_27 : decode cL_does 27 = .ok (.istore 4, 2) := by decide +kernel
theorem dL_does_29 : decode cL_does 29 = .ok (.iload_n 3, 1) := by decide +kernel
theorem dL_does_30 : decode cL_does 30 = .ok (.ifCond .ne 7, 3) := by decide +kernel
theorem dL_does_33 : decode cL_does 33 = .ok (.iconst 0, 1) := by decide +kernel
theorem dL_does_34 : decode cL_does 34 = .ok (.goto 10, 3) := by decide +kernel
theorem dL_does_37 : decode cL_does 37 = .ok (.iload_n 1, 1) := by decide +kernel
theorem dL_does_38 : decode cL_does 38 = .ok (.iconst 4, 1) := by decide +kernel
theorem dL_does_39 : decode cL_does 39 = .ok (.ishr, 1) := by decide +kernel
theorem dL_does_40 : decode cL_does 40 = .ok (.iload_n 3, 1) := by decide +kernel
theorem dL_does_41 : decode cL_does 41 = .ok (.invokestatic 14, 3) := by decide +kernel
theorem dL_does_44 : decode cL_does 44 = .ok (.istore 5, 2) := by decide +kernel
theorem dL_does_46 : decode cL_does 46 = .ok (.iload_n 2, 1) := by decide +kernel
theorem dL_does_47 : decode cL_does 47 = .ok (.ifCond .ne 7, 3) := by decide +kernel
theorem dL_does_50 : decode cL_does 50 = .ok (.iconst 3, 1) := by decide +kernel
theorem dL_does_51 : decode cL_does 51 = .ok (.goto 10, 3) := by decide +kernel
theorem dL_does_54 : decode cL_does 54 = .ok (.aload_n 0, 1) := by decide +kernel
theorem dL_does_55 : decode cL_does 55 = .ok (.iload 4, 2) := by decide +kernel
theorem dL_does_57 : decode cL_does 57 = .ok (.iconst 0, 1) := by decide +kernel
theorem dL_does_58 : decode cL_does 58 = .ok (.invokevirtual 20, 3) := by decide +kernel
theorem dL_does_61 : decode cL_does 61 = .ok (.istore 6, 2) := by decide +kernel
theorem dL_does_63 : decode cL_does 63 = .ok (.iload_n 1, 1) := by decide +kernel
theorem dL_does_64 : decode cL_does 64 = .ok (.bipush 15, 2) := by decide +kernel
theorem dL_does_66 : decode cL_does 66 = .ok (.iand, 1) := by decide +kernel
theorem dL_does_67 : decode cL_does 67 = .ok (.tableswitch 246 0 12 #[65, 65, 80, 102, 102, 102, 102, 118, 141, 165, 165, 165, 206], 65) := by decide +kernel
theorem dL_does_132 : decode cL_does 132 = .ok (.iload_n 2, 1) := by decide +kernel
theorem dL_does_133 : decode cL_does 133 = .ok (.bipush 12, 2) := by decide +kernel
theorem dL_does_135 : decode cL_does 135 = .ok (.if_icmp .ge 10, 3) := by decide +kernel
theorem dL_does_138 : decode cL_does 138 = .ok (.aload_n 0, 1) := by decide +kernel
theorem dL_does_139 : decode cL_does 139 = .ok (.invokevirtual 23, 3) := by decide +kernel
theorem dL_does_142 : decode cL_does 142 = .ok (.goto 4, 3) := by decide +kernel
theorem dL_does_145 : decode cL_does 145 = .ok (.iconst 0, 1) := by decide +kernel
theorem dL_does_146 : decode cL_does 146 = .ok (.ireturn, 1) := by decide +kernel
theorem dL_does_147 : decode cL_does 147 = .ok (.iload_n 3, 1) := by decide +kernel
theorem dL_does_148 : decode cL_does 148 = .ok (.iconst 4, 1) := by decide +kernel
theorem dL_does_149 : decode cL_does 149 = .ok (.if_icmp .ge 18, 3) := by decide +kernel
theorem dL_does_152 : decode cL_does 152 = .ok (.iload_n 1, 1) := by decide +kernel
theorem dL_does_153 : decode cL_does 153 = .ok (.iconst 4, 1) := by decide +kernel
theorem dL_does_154 : decode cL_does 154 = .ok (.ishr, 1) := by decide +kernel
theorem dL_does_155 : decode cL_does 155 = .ok (.iconst 1, 1) := by decide +kernel
theorem dL_does_156 : decode cL_does 156 = .ok (.iand, 1) := by decide +kernel
theorem dL_does_157 : decode cL_does 157 = .ok (.ifCond .ne 10, 3) := by decide +kernel
theorem dL_does_160 : decode cL_does 160 = .ok (.aload_n 0, 1) := by decide +kernel
theorem dL_does_161 : decode cL_does 161 = .ok (.invokevirtual 27, 3) := by decide +kernel
theorem dL_does_164 : decode cL_does 164 = .ok (.goto 4, 3) := by decide +kernel
theorem dL_does_167 : decode cL_does 167 = .ok (.iconst 0, 1) := by decide +kernel
theorem dL_does_168 : decode cL_does 168 = .ok (.ireturn, 1) := by decide +kernel
theorem dL_does_169 : decode cL_does 169 = .ok (.iload 6, 2) := by decide +kernel
theorem dL_does_171 : decode cL_does 171 = .ok (.ifCond .ne 12, 3) := by decide +kernel
theorem dL_does_174 : decode cL_does 174 = .ok (.aload_n 0, 1) := by decide +kernel
theorem dL_does_175 : decode cL_does 175 = .ok (.iload 4, 2) := by decide +kernel
theorem dL_does_177 : decode cL_does 177 = .ok (.invokevirtual 30, 3) := by decide +kernel
theorem dL_does_180 : decode cL_does 180 = .ok (.goto 4, 3) := by decide +kernel
theorem dL_does_183 : decode cL_does 183 = .ok (.iconst 0, 1) := by decide +kernel
theorem dL_does_184 : decode cL_does 184 = .ok (.ireturn, 1) := by decide +kernel
theorem dL_does_185 : decode cL_does 185 = .ok (.iload 6, 2) := by decide +kernel
theorem dL_does_187 : decode cL_does 187 = .ok (.iconst 1, 1) := by decide +kernel
theorem dL_does_188 : decode cL_does 188 = .ok (.if_icmp .eq 9, 3) := by decide +kernel
theorem dL_does_191 : decode cL_does 191 = .ok (.iload 6, 2) := by decide +kernel
theorem dL_does_193 : decode cL_does 193 = .ok (.iconst 2, 1) := by decide +kernel
theorem dL_does_194 : decode cL_does 194 = .ok (.if_icmp .ne 12, 3) := by decide +kernel
theorem dL_does_197 : decode cL_does 197 = .ok (.aload_n 0, 1) := by decide +kernel
theorem dL_does_198 : decode cL_does 198 = .ok (.iload 4, 2) := by decide +kernel
theorem dL_does_200 : decode cL_does 200 = .ok (.invokevirtual 33, 3) := by decide +kernel
theorem dL_does_203 : decode cL_does 203 = .ok (.goto 4, 3) := by decide +kernel
theorem dL_does_206 : decode cL_does 206 = .ok (.iconst 0, 1) := by decide +kernel
theorem dL_does_207 : decode cL_does 207 = .ok (.ireturn, 1) := by decide +kernel
theorem dL_does_208 : decode cL_does 208 = .ok (.iload_n 3, 1) := by decide +kernel
theorem dL_does_209 : decode cL_does 209 = .ok (.ifCond .le 21, 3) := by decide +kernel
theorem dL_does_212 : decode cL_does 212 = .ok (.aload_n 0, 1) := by decide +kernel
theorem dL_does_213 : decode cL_does 213 = .ok (.iload 5, 2) := by decide +kernel
theorem dL_does_215 : decode cL_does 215 = .ok (.iload_n 1, 1) := by decide +kernel
theorem dL_does_216 : decode cL_does 216 = .ok (.bipush 7, 2) := by decide +kernel
theorem dL_does_218 : decode cL_does 218 = .ok (.ishr, 1) := by decide +kernel
theorem dL_does_219 : decode cL_does 219 = .ok (.bipush 10, 2) := by decide +kernel
theorem dL_does_221 : decode cL_does 221 = .ok (.invokestatic 14, 3) := by decide +kernel
theorem dL_does_224 : decode cL_does 224 = .ok (.invokevirtual 36, 3) := by decide +kernel
theorem dL_does_227 : decode cL_does 227 = .ok (.goto 4, 3) := by decide +kernel
theorem dL_does_230 : decode cL_does 230 = .ok (.iconst 0, 1) := by decide +kernel
theorem dL_does_231 : decode cL_does 231 = .ok (.ireturn, 1) := by decide +kernel
theorem dL_does_232 : decode cL_does 232 = .ok (.iload 6, 2) := by decide +kernel
theorem dL_does_234 : decode cL_does 234 = .ok (.iconst 2, 1) := by decide +kernel
theorem dL_does_235 : decode cL_does 235 = .ok (.if_icmp .ne 36, 3) := by decide +kernel
theorem dL_does_238 : decode cL_does 238 = .ok (.aload_n 0, 1) := by decide +kernel
theorem dL_does_239 : decode cL_does 239 = .ok (.iload 4, 2) := by decide +kernel
theorem dL_does_241 : decode cL_does 241 = .ok (.iconst 5, 1) := by decide +kernel
theorem dL_does_242 : decode cL_does 242 = .ok (.invokevirtual 20, 3) := by decide +kernel
theorem dL_does_245 : decode cL_does 245 = .ok (.ifCond .ne 26, 3) := by decide +kernel
theorem dL_does_248 : decode cL_does 248 = .ok (.aload_n 0, 1) := by decide +kernel
theorem dL_does_249 : decode cL_does 249 = .ok (.iload 4, 2) := by decide +kernel
theorem dL_does_251 : decode cL_does 251 = .ok (.iload_n 1, 1) := by decide +kernel
theorem dL_does_252 : decode cL_does 252 = .ok (.bipush 9, 2) := by decide +kernel
theorem dL_does_254 : decode cL_does 254 = .ok (.ishr, 1) := by decide +kernel
theorem dL_does_255 : decode cL_does 255 = .ok (.iconst 3, 1) := by decide +kernel
theorem dL_does_256 : decode cL_does 256 = .ok (.iand, 1) := by decide +kernel
theorem dL_does_257 : decode cL_does 257 = .ok (.ifCond .ne 7, 3) := by decide +kernel
theorem dL_does_260 : decode cL_does 260 = .ok (.iconst 1, 1) := by decide +kernel
theorem dL_does_261 : decode cL_does 261 = .ok (.goto 4, 3) := by decide +kernel
theorem dL_does_264 : decode cL_does 264 = .ok (.iconst 0, 1) := by decide +kernel
theorem dL_does_265 : decode cL_does 265 = .ok (.invokevirtual 39, 3) := by decide +kernel
theorem dL_does_268 : decode cL_does 268 = .ok (.goto 4, 3) := by decide +kernel
theorem dL_does_271 : decode cL_does 271 = .ok (.iconst 0, 1) := by decide +kernel
theorem dL_does_272 : decode cL_does 272 = .ok (.ireturn, 1) := by decide +kernel
theorem dL_does_273 : decode cL_does 273 = .ok (.iload_n 1, 1) := by decide +kernel
theorem dL_does_274 : decode cL_does 274 = .ok (.iconst 4, 1) := by decide +kernel
theorem dL_does_275 : decode cL_does 275 = .ok (.ishr, 1) := by decide +kernel
theorem dL_does_276 : decode cL_does 276 = .ok (.iconst 4, 1) := by decide +kernel
theorem dL_does_277 : decode cL_does 277 = .ok (.invokestatic 14, 3) := by decide +kernel
theorem dL_does_280 : decode cL_does 280 = .ok (.istore 7, 2) := by decide +kernel
theorem dL_does_282 : decode cL_does 282 = .ok (.aload_n 0, 1) := by decide +kernel
theorem dL_does_283 : decode cL_does 283 = .ok (.iload 7, 2) := by decide +kernel
theorem dL_does_285 : decode cL_does 285 = .ok (.iload 7, 2) := by decide +kernel
theorem dL_does_287 : decode cL_does 287 = .ok (.iconst 1, 1) := by decide +kernel
theorem dL_does_288 : decode cL_does 288 = .ok (.if_icmp .ne 12, 3) := by decide +kernel
theorem dL_does_291 : decode cL_does 291 = .ok (.iload_n 1, 1) := by decide +kernel
theorem dL_does_292 : decode cL_does 292 = .ok (.bipush 6, 2) := by decide +kernel
theorem dL_does_294 : decode cL_does 294 = .ok (.ishr, 1) := by decide +kernel
theorem dL_does_295 : decode cL_does 295 = .ok (.iconst 1, 1) := by decide +kernel
theorem dL_does_296 : decode cL_does 296 = .ok (.iand, 1) := by decide +kernel
theorem dL_does_297 : decode cL_does 297 = .ok (.goto 12, 3) := by decide +kernel
theorem dL_does_300 : decode cL_does 300 = .ok (.iload_n 1, 1) := by decide +kernel
theorem dL_does_301 : decode cL_does 301 = .ok (.bipush 6, 2) := by decide +kernel
theorem dL_does_303 : decode cL_does 303 = .ok (.ishr, 1) := by decide +kernel
theorem dL_does_304 : decode cL_does 304 = .ok (.bipush 10, 2) := by decide +kernel
theorem dL_does_306 : decode cL_does 306 = .ok (.invokestatic 14, 3) := by decide +kernel
theorem dL_does_309 : decode cL_does 309 = .ok (.invokevirtual 43, 3) := by decide +kernel
theorem dL_does_312 : decode cL_does 312 = .ok (.ireturn, 1) := by decide +kernel
theorem dL_does_313 : decode cL_does 313 = .ok (.aload_n 0, 1) := by decide +kernel
theorem dL_does_314 : decode cL_does 314 = .ok (.invokevirtual 46, 3) := by decide +kernel
theorem dL_does_317 : decode cL_does 317 = .ok (.ireturn, 1) := by decide +kernel
theorem dL_arePupilsSo_0 : decode cL_arePupilsSo 0 = .ok (.iconst 0, 1) := by decide +kernel
theorem dL_arePupilsSo_1 : decode cL_arePupilsSo 1 = .ok (.istore_n 1, 1) := by decide +kernel
theorem dL_arePupilsSo_2 : decode cL_arePupilsSo 2 = .ok (.iconst 0, 1) := by decide +kernel
theorem dL_arePupilsSo_3 : decode cL_arePupilsSo 3 = .ok (.istore_n 2, 1) := by decide +kernel
theorem dL_arePupilsSo_4 : decode cL_arePupilsSo 4 = .ok (.iconst 0, 1) := by decide +kernel
theorem dL_arePupilsSo_5 : decode cL_arePupilsSo 5 = .ok (.istore_n 3, 1) := by decide +kernel
theorem dL_arePupilsSo_6 : decode cL_arePupilsSo 6 = .ok (.iconst 0, 1) := by decide +kernel
theorem dL_arePupilsSo_7 : decode cL_arePupilsSo 7 = .ok (.istore 4, 2) := by decide +kernel
theorem dL_arePupilsSo_9 : decode cL_arePupilsSo 9 = .ok (.iconst 0, 1) := by decide +kernel
theorem dL_arePupilsSo_10 : decode cL_arePupilsSo 10 = .ok (.istore 5, 2) := by decide +kernel
theorem dL_arePupilsSo_12 : decode cL_arePupilsSo 12 = .ok (.iconst 0, 1) := by decide +kernel
theorem dL_arePupilsSo_13 : decode cL_arePupilsSo 13 = .ok (.istore 6, 2) := by decide +kernel
theorem dL_arePupilsSo_15 : decode cL_arePupilsSo 15 = .ok (.iload 6, 2) := by decide +kernel
theorem dL_arePupilsSo_17 : decode cL_arePupilsSo 17 = .ok (.aload_n 0, 1) := by decide +kernel
theorem dL_arePupilsSo_18 : decode cL_arePupilsSo 18 = .ok (.iconst 2, 1) := by decide +kernel
theorem dL_arePupilsSo_19 : decode cL_arePupilsSo 19 = .ok (.invokevirtual 8, 3) := by decide +kernel
theorem dL_arePupilsSo_22 : decode cL_arePupilsSo 22 = .ok (.if_icmp .ge 205, 3) := by decide +kernel
theorem dL_arePupilsSo_25 : decode cL_arePupilsSo 25 = .ok (.aload_n 0, 1) := by decide +kernel
theorem dL_arePupilsSo_26 : decode cL_arePupilsSo 26 = .ok (.iload 6, 2) := by decide +kernel
theorem dL_arePupilsSo_28 : decode cL_arePupilsSo 28 = .ok (.iconst 0, 1) := by decide +kernel
theorem dL_arePupilsSo_29 : decode cL_arePupilsSo 29 = .ok (.invokevirtual 20, 3) := by decide +kernel
theorem dL_arePupilsSo_32 : decode cL_arePupilsSo 32 = .ok (.istore 7, 2) := by decide +kernel
theorem dL_arePupilsSo_34 : decode cL_arePupilsSo 34 = .ok (.aload_n 0, 1) := by decide +kernel
theorem dL_arePupilsSo_35 : decode cL_arePupilsSo 35 = .ok (.iload 6, 2) := by decide +kernel
theorem dL_arePupilsSo_37 : decode cL_arePupilsSo 37 = .ok (.iconst 5, 1) := by decide +kernel
theorem dL_arePupilsSo_38 : decode cL_arePupilsSo 38 = .ok (.invokevirtual 20, 3) := by decide +kernel
theorem dL_arePupilsSo_41 : decode cL_arePupilsSo 41 = .ok (.istore 8, 2) := by decide +kernel
theorem dL_arePupilsSo_43 : decode cL_arePupilsSo 43 = .ok (.iload_n 1, 1) := by decide +kernel
theorem dL_arePupilsSo_44 : decode cL_arePupilsSo 44 = .ok (.aload_n 0, 1) := by decide +kernel
theorem dL_arePupilsSo_45 : decode cL_arePupilsSo 45 = .ok (.iload 6, 2) := by decide +kernel
theorem dL_arePupilsSo_47 : decode cL_arePupilsSo 47 = .ok (.bipush 8, 2) := by decide +kernel
theorem dL_arePupilsSo_49 : decode cL_arePupilsSo 49 = .ok (.invokevirtual 20, 3) := by decide +kernel
theorem dL_arePupilsSo_52 : decode cL_arePupilsSo 52 = .ok (.iadd, 1) := by decide +kernel
theorem dL_arePupilsSo_53 : decode cL_arePupilsSo 53 = .ok (.istore_n 1, 1) := by decide +kernel
theorem dL_arePupilsSo_54 : decode cL_arePupilsSo 54 = .ok (.iload_n 2, 1) := by decide +kernel
theorem dL_arePupilsSo_55 : decode cL_arePupilsSo 55 = .ok (.aload_n 0, 1) := by decide +kernel
theorem dL_arePupilsSo_56 : decode cL_arePupilsSo 56 = .ok (.iload 6, 2) := by decide +kernel
theorem dL_arePupilsSo_58 : decode cL_arePupilsSo 58 = .ok (.bipush 10, 2) := by decide +kernel
theorem dL_arePupilsSo_60 : decode cL_arePupilsSo 60 = .ok (.invokevirtual 20, 3) := by decide +kernel
theorem dL_arePupilsSo_63 : decode cL_arePupilsSo 63 = .ok (.iadd, 1) := by decide +kernel
theorem dL_arePupilsSo_64 : decode cL_arePupilsSo 64 = .ok (.istore_n 2, 1) := by decide +kernel
theorem dL_arePupilsSo_65 : decode cL_arePupilsSo 65 = .ok (.iload_n 3, 1) := by decide +kernel
theorem dL_arePupilsSo_66 : decode cL_arePupilsSo 66 = .ok (.iload 8, 2) := by decide +kernel
theorem dL_arePupilsSo_68 : decode cL_arePupilsSo 68 = .ok (.ifCond .ge 7, 3) := by decide +kernel
theorem dL_arePupilsSo_71 : decode cL_arePupilsSo 71 = .ok (.iconst 0, 1) := by decide +kernel
theorem dL_arePupilsSo_72 : decode cL_arePupilsSo 72 = .ok (.goto 5, 3) := by decide +kernel
theorem dL_arePupilsSo_75 : decode cL_arePupilsSo 75 = .ok (.iload 8, 2) := by decide +kernel
theorem dL_arePupilsSo_77 : decode cL_arePupilsSo 77 = .ok (.iadd, 1) := by decide +kernel
theorem dL_arePupilsSo_78 : decode cL_arePupilsSo 78 = .ok (.istore_n 3, 1) := by decide +kernel
theorem dL_arePupilsSo_79 : decode cL_arePupilsSo 79 = .ok (.iload 5, 2) := by decide +kernel
theorem dL_arePupilsSo_81 : decode cL_arePupilsSo 81 = .ok (.iload 7, 2) := by decide +kernel
theorem dL_arePupilsSo_83 : decode cL_arePupilsSo 83 = .ok (.iconst 1, 1) := by decide +kernel
theorem dL_arePupilsSo_84 : decode cL_arePupilsSo 84 = .ok (.if_icmp .ne 7, 3) := by decide +kernel
theorem dL_arePupilsSo_87 : decode cL_arePupilsSo 87 = .ok (.iconst 1, 1) := by decide +kernel
theorem dL_arePupilsSo_88 : decode cL_arePupilsSo 88 = .ok (.goto 4, 3) := by decide +kernel
theorem dL_arePupilsSo_91 : decode cL_arePupilsSo 91 = .ok (.iconst 0, 1) := by decide +kernel
theorem dL_arePupilsSo_92 : decode cL_arePupilsSo 92 = .ok (.iadd, 1) := by decide +kernel
theorem dL_arePupilsSo_93 : decode cL_arePupilsSo 93 = .ok (.istore 5, 2) := by decide +kernel
theorem dL_arePupilsSo_95 : decode cL_arePupilsSo 95 = .ok (.iload 4, 2) := by decide +kernel
theorem dL_arePupilsSo_97 : decode cL_arePupilsSo 97 = .ok (.iload 7, 2) := by decide +kernel
theorem dL_arePupilsSo_99 : decode cL_arePupilsSo 99 = .ok (.iconst 1, 1) := by decide +kernel
theorem dL_arePupilsSo_100 : decode cL_arePupilsSo 100 = .ok (.if_icmp .ne 16, 3) := by decide +kernel
theorem dL_arePupilsSo_103 : decode cL_arePupilsSo 103 = .ok (.iconst 1, 1) := by decide +kernel
theorem dL_arePupilsSo_104 : decode cL_arePupilsSo 104 = .ok (.aload_n 0, 1) := by decide +kernel
theorem dL_arePupilsSo_105 : decode cL_arePupilsSo 105 = .ok (.iload 6, 2) := by decide +kernel
theorem dL_arePupilsSo_107 : decode cL_arePupilsSo 107 = .ok (.bipush 9, 2) := by decide +kernel
theorem dL_arePupilsSo_109 : decode cL_arePupilsSo 109 = .ok (.invokevirtual 20, 3) := by decide +kernel
theorem dL_arePupilsSo_112 : decode cL_arePupilsSo 112 = .ok (.ishl, 1) := by decide +kernel
theorem dL_arePupilsSo_113 : decode cL_arePupilsSo 113 = .ok (.goto 4, 3) := by decide +kernel
theorem dL_arePupilsSo_116 : decode cL_arePupilsSo 116 = .ok (.iconst 0, 1) := by decide +kernel
theorem dL_arePupilsSo_117 : decode cL_arePupilsSo 117 = .ok (.ior, 1) := by decide +kernel
theorem dL_arePupilsSo_118 : decode cL_arePupilsSo 118 = .ok (.istore 4, 2) := by decide +kernel
theorem dL_arePupilsSo_120 : decode cL_arePupilsSo 120 = .ok (.iload 7, 2) := by decide +kernel
theorem dL_arePupilsSo_122 : decode cL_arePupilsSo 122 = .ok (.iconst 2, 1) := by decide +kernel
theorem dL_arePupilsSo_123 : decode cL_arePupilsSo 123 = .ok (.if_icmp .ne 7, 3) := by decide +kernel
theorem dL_arePupilsSo_126 : decode cL_arePupilsSo 126 = .ok (.iconst 1, 1) := by decide +kernel
theorem dL_arePupilsSo_127 : decode cL_arePupilsSo 127 = .ok (.goto 4, 3) := by decide +kernel
theorem dL_arePupilsSo_130 : decode cL_arePupilsSo 130 = .ok (.iconst 0, 1) := by decide +kernel
theorem dL_arePupilsSo_131 : decode cL_arePupilsSo 131 = .ok (.iload 8, 2) := by decide +kernel
theorem dL_arePupilsSo_133 : decode cL_arePupilsSo 133 = .ok (.ifCond .lt 7, 3) := by decide +kernel
theorem dL_arePupilsSo_136 : decode cL_arePupilsSo 136 = .ok (.iconst 1, 1) := by decide +kernel
theorem dL_arePupilsSo_137 : decode cL_arePupilsSo 137 = .ok (.goto 4, 3) := by decide +kernel
theorem dL_arePupilsSo_140 : decode cL_arePupilsSo 140 = .ok (.iconst 0, 1) := by decide +kernel
theorem dL_arePupilsSo_141 : decode cL_arePupilsSo 141 = .ok (.if_icmp .ne 70, 3) := by decide +kernel
theorem dL_arePupilsSo_144 : decode cL_arePupilsSo 144 = .ok (.iload 7, 2) := by decide +kernel
theorem dL_arePupilsSo_146 : decode cL_arePupilsSo 146 = .ok (.iconst 1, 1) := by decide +kernel
theorem dL_arePupilsSo_147 : decode cL_arePupilsSo 147 = .ok (.if_icmp .ne 7, 3) := by decide +kernel
theorem dL_arePupilsSo_150 : decode cL_arePupilsSo 150 = .ok (.iconst 1, 1) := by decide +kernel
theorem dL_arePupilsSo_151 : decode cL_arePupilsSo 151 = .ok (.goto 4, 3) := by decide +kernel
theorem dL_arePupilsSo_154 : decode cL_arePupilsSo 154 = .ok (.iconst 0, 1) := by decide +kernel
theorem dL_arePupilsSo_155 : decode cL_arePupilsSo 155 = .ok (.aload_n 0, 1) := by decide +kernel
theorem dL_arePupilsSo_156 : decode cL_arePupilsSo 156 = .ok (.iload 6, 2) := by decide +kernel
theorem dL_arePupilsSo_158 : decode cL_arePupilsSo 158 = .ok (.bipush 9, 2) := by decide +kernel
theorem dL_arePupilsSo_160 : decode cL_arePupilsSo 160 = .ok (.invokevirtual 20, 3) := by decide +kernel
theorem dL_arePupilsSo_163 : decode cL_arePupilsSo 163 = .ok (.ifCond .lt 7, 3) := by decide +kernel
theorem dL_arePupilsSo_166 : decode cL_arePupilsSo 166 = .ok (.iconst 1, 1) := by decide +kernel
theorem dL_arePupilsSo_167 : decode cL_arePupilsSo 167 = .ok (.goto 4, 3) := by decide +kernel
theorem dL_arePupilsSo_170 : decode cL_arePupilsSo 170 = .ok (.iconst 0, 1) := by decide +kernel
theorem dL_arePupilsSo_171 : decode cL_arePupilsSo 171 = .ok (.if_icmp .ne 40, 3) := by decide +kernel
theorem dL_arePupilsSo_174 : decode cL_arePupilsSo 174 = .ok (.iload 7, 2) := by decide +kernel
theorem dL_arePupilsSo_176 : decode cL_arePupilsSo 176 = .ok (.iconst 2, 1) := by decide +kernel
theorem dL_arePupilsSo_177 : decode cL_arePupilsSo 177 = .ok (.if_icmp .ne 30, 3) := by decide +kernel
theorem dL_arePupilsSo_180 : decode cL_arePupilsSo 180 = .ok (.aload_n 0, 1) := by decide +kernel
theorem dL_arePupilsSo_181 : decode cL_arePupilsSo 181 = .ok (.aload_n 0, 1) := by decide +kernel
theorem dL_arePupilsSo_182 : decode cL_arePupilsSo 182 = .ok (.iload 6, 2) := by decide +kernel
theorem dL_arePupilsSo_184 : decode cL_arePupilsSo 184 = .ok (.bipush 7, 2) := by decide +kernel
theorem dL_arePupilsSo_186 : decode cL_arePupilsSo 186 = .ok (.invokevirtual 20, 3) := by decide +kernel
theorem dL_arePupilsSo_189 : decode cL_arePupilsSo 189 = .ok (.iload 8, 2) := by decide +kernel
theorem dL_arePupilsSo_191 : decode cL_arePupilsSo 191 = .ok (.aload_n 0, 1) := by decide +kernel
theorem dL_arePupilsSo_192 : decode cL_arePupilsSo 192 = .ok (.iload 6, 2) := by decide +kernel
theorem dL_arePupilsSo_194 : decode cL_arePupilsSo 194 = .ok (.bipush 6, 2) := by decide +kernel
theorem dL_arePupilsSo_196 : decode cL_arePupilsSo 196 = .ok (.invokevirtual 20, 3) := by decide +kernel
theorem dL_arePupilsSo_199 : decode cL_arePupilsSo 199 = .ok (.invokevirtual 49, 3) := by decide +kernel
theorem dL_arePupilsSo_202 : decode cL_arePupilsSo 202 = .ok (.iload 6, 2) := by decide +kernel
theorem dL_arePupilsSo_204 : decode cL_arePupilsSo 204 = .ok (.if_icmp .ne 7, 3) := by decide +kernel
theorem dL_arePupilsSo_207 : decode cL_arePupilsSo 207 = .ok (.iconst 1, 1) := by decide +kernel
theorem dL_arePupilsSo_208 : decode cL_arePupilsSo 208 = .ok (.goto 4, 3) := by decide +kernel
theorem dL_arePupilsSo_211 : decode cL_arePupilsSo 211 = .ok (.iconst 0, 1) := by decide +kernel
theorem dL_arePupilsSo_212 : decode cL_arePupilsSo 212 = .ok (.istore 9, 2) := by decide +kernel
theorem dL_arePupilsSo_214 : decode cL_arePupilsSo 214 = .ok (.iload 9, 2) := by decide +kernel
theorem dL_arePupilsSo_216 : decode cL_arePupilsSo 216 = .ok (.ifCond .ne 5, 3) := by decide +kernel
theorem dL_arePupilsSo_219 : decode cL_arePupilsSo 219 = .ok (.iconst 0, 1) := by decide +kernel
theorem dL_arePupilsSo_220 : decode cL_arePupilsSo 220 = .ok (.ireturn, 1) := by decide +kernel
theorem dL_arePupilsSo_221 : decode cL_arePupilsSo 221 = .ok (.iinc 6 1, 3) := by decide +kernel
theorem dL_arePupilsSo_224 : decode cL_arePupilsSo 224 = .ok (.goto (-209), 3) := by decide +kernel
theorem dL_arePupilsSo_227 : decode cL_arePupilsSo 227 = .ok (.iload_n 1, 1) := by decide +kernel
theorem dL_arePupilsSo_228 : decode cL_arePupilsSo 228 = .ok (.aload_n 0, 1) := by decide +kernel
theorem dL_arePupilsSo_229 : decode cL_arePupilsSo 229 = .ok (.bipush 9, 2) := by decide +kernel
theorem dL_arePupilsSo_231 : decode cL_arePupilsSo 231 = .ok (.invokevirtual 8, 3) := by decide +kernel
theorem dL_arePupilsSo_234 : decode cL_arePupilsSo 234 = .ok (.if_icmp .ne 48, 3) := by decide +kernel
theorem dL_arePupilsSo_237 : decode cL_arePupilsSo 237 = .ok (.iload_n 2, 1) := by decide +kernel
theorem dL_arePupilsSo_238 : decode cL_arePupilsSo 238 = .ok (.aload_n 0, 1) := by decide +kernel
theorem dL_arePupilsSo_239 : decode cL_arePupilsSo 239 = .ok (.bipush 11, 2) := by decide +kernel
theorem dL_arePupilsSo_241 : decode cL_arePupilsSo 241 = .ok (.invokevirtual 8, 3) := by decide +kernel
theorem dL_arePupilsSo_244 : decode cL_arePupilsSo 244 = .ok (.if_icmp .ne 38, 3) := by decide +kernel
theorem dL_arePupilsSo_247 : decode cL_arePupilsSo 247 = .ok (.iload_n 3, 1) := by decide +kernel
theorem dL_arePupilsSo_248 : decode cL_arePupilsSo 248 = .ok (.aload_n 0, 1) := by decide +kernel
theorem dL_arePupilsSo_249 : decode cL_arePupilsSo 249 = .ok (.bipush 13, 2) := by decide +kernel
theorem dL_arePupilsSo_251 : decode cL_arePupilsSo 251 = .ok (.invokevirtual 8, 3) := by decide +kernel
theorem dL_arePupilsSo_254 : decode cL_arePupilsSo 254 = .ok (.if_icmp .ne 28, 3) := by decide +kernel
theorem dL_arePupilsSo_257 : decode cL_arePupilsSo 257 = .ok (.iload 4, 2) := by decide +kernel
theorem dL_arePupilsSo_259 : decode cL_arePupilsSo 259 = .ok (.iconst 1, 1) := by decide +kernel
theorem dL_arePupilsSo_260 : decode cL_arePupilsSo 260 = .ok (.iload 5, 2) := by decide +kernel
theorem dL_arePupilsSo_262 : decode cL_arePupilsSo 262 = .ok (.ishl, 1) := by decide +kernel
theorem dL_arePupilsSo_263 : decode cL_arePupilsSo 263 = .ok (.iconst 1, 1) := by decide +kernel
theorem dL_arePupilsSo_264 : decode cL_arePupilsSo 264 = .ok (.isub, 1) := by decide +kernel
theorem dL_arePupilsSo_265 : decode cL_arePupilsSo 265 = .ok (.if_icmp .ne 17, 3) := by decide +kernel
theorem dL_arePupilsSo_268 : decode cL_arePupilsSo 268 = .ok (.iload 5, 2) := by decide +kernel
theorem dL_arePupilsSo_270 : decode cL_arePupilsSo 270 = .ok (.aload_n 0, 1) := by decide +kernel
theorem dL_arePupilsSo_271 : decode cL_arePupilsSo 271 = .ok (.iconst 4, 1) := by decide +kernel
theorem dL_arePupilsSo_272 : decode cL_arePupilsSo 272 = .ok (.invokevirtual 8, 3) := by decide +kernel
theorem dL_arePupilsSo_275 : decode cL_arePupilsSo 275 = .ok (.if_icmp .ne 7, 3) := by decide +kernel
theorem dL_arePupilsSo_278 : decode cL_arePupilsSo 278 = .ok (.iconst 1, 1) := by decide +kernel
theorem dL_arePupilsSo_279 : decode cL_arePupilsSo 279 = .ok (.goto 4, 3) := by decide +kernel
theorem dL_arePupilsSo_282 : decode cL_arePupilsSo 282 = .ok (.iconst 0, 1) := by decide +kernel
theorem dL_arePupilsSo_283 : decode cL_arePupilsSo 283 = .ok (.istore 6, 2) := by decide +kernel
theorem dL_arePupilsSo_285 : decode cL_arePupilsSo 285 = .ok (.iload 6, 2) := by decide +kernel
theorem dL_arePupilsSo_287 : decode cL_arePupilsSo 287 = .ok (.ifCond .eq 39, 3) := by decide +kernel
theorem dL_arePupilsSo_290 : decode cL_arePupilsSo 290 = .ok (.aload_n 0, 1) := by decide +kernel
theorem dL_arePupilsSo_291 : decode cL_arePupilsSo 291 = .ok (.iconst 3, 1) := by decide +kernel
theorem dL_arePupilsSo_292 : decode cL_arePupilsSo 292 = .ok (.invokevirtual 8, 3) := by decide +kernel
theorem dL_arePupilsSo_295 : decode cL_arePupilsSo 295 = .ok (.aload_n 0, 1) := by decide +kernel
theorem dL_arePupilsSo_296 : decode cL_arePupilsSo 296 = .ok (.iconst 4, 1) := by decide +kernel
theorem dL_arePupilsSo_297 : decode cL_arePupilsSo 297 = .ok (.invokevirtual 8, 3) := by decide +kernel
theorem dL_arePupilsSo_300 : decode cL_arePupilsSo 300 = .ok (.iadd, 1) := by decide +kernel
theorem dL_arePupilsSo_301 : decode cL_arePupilsSo 301 = .ok (.aload_n 0, 1) := by decide +kernel
theorem dL_arePupilsSo_302 : decode cL_arePupilsSo 302 = .ok (.iconst 5, 1) := by decide +kernel
theorem dL_arePupilsSo_303 : decode cL_arePupilsSo 303 = .ok (.invokevirtual 8, 3) := by decide +kernel
theorem dL_arePupilsSo_306 : decode cL_arePupilsSo 306 = .ok (.iadd, 1) := by decide +kernel
theorem dL_arePupilsSo_307 : decode cL_arePupilsSo 307 = .ok (.aload_n 0, 1) := by decide +kernel
theorem dL_arePupilsSo_308 : decode cL_arePupilsSo 308 = .ok (.bipush 6, 2) := by decide +kernel
theorem dL_arePupilsSo_310 : decode cL_arePupilsSo 310 = .ok (.invokevirtual 8, 3) := by decide +kernel
theorem dL_arePupilsSo_313 : decode cL_arePupilsSo 313 = .ok (.iadd, 1) := by decide +kernel
theorem dL_arePupilsSo_314 : decode cL_arePupilsSo 314 = .ok (.aload_n 0, 1) := by decide +kernel
theorem dL_arePupilsSo_315 : decode cL_arePupilsSo 315 = .ok (.iconst 2, 1) := by decide +kernel
theorem dL_arePupilsSo_316 : decode cL_arePupilsSo 316 = .ok (.invokevirtual 8, 3) := by decide +kernel
theorem dL_arePupilsSo_319 : decode cL_arePupilsSo 319 = .ok (.if_icmp .ne 7, 3) := by decide +kernel
theorem dL_arePupilsSo_322 : decode cL_arePupilsSo 322 = .ok (.iconst 1, 1) := by decide +kernel
theorem dL_arePupilsSo_323 : decode cL_arePupilsSo 323 = .ok (.goto 4, 3) := by decide +kernel
theorem dL_arePupilsSo_326 : decode cL_arePupilsSo 326 = .ok (.iconst 0, 1) := by decide +kernel
theorem dL_arePupilsSo_327 : decode cL_arePupilsSo 327 = .ok (.ireturn, 1) := by decide +kernel
theorem dL_areExaminersSo_0 : decode cL_areExaminersSo 0 = .ok (.iconst 0, 1) := by decide +kernel
theorem dL_areExaminersSo_1 : decode cL_areExaminersSo 1 = .ok (.istore_n 1, 1) := by decide +kernel
theorem dL_areExaminersSo_2 : decode cL_areExaminersSo 2 = .ok (.iconst 0, 1) := by decide +kernel
theorem dL_areExaminersSo_3 : decode cL_areExaminersSo 3 = .ok (.istore_n 2, 1) := by decide +kernel
theorem dL_areExaminersSo_4 : decode cL_areExaminersSo 4 = .ok (.iconst 0, 1) := by decide +kernel
theorem dL_areExaminersSo_5 : decode cL_areExaminersSo 5 = .ok (.istore_n 3, 1) := by decide +kernel
theorem dL_areExaminersSo_6 : decode cL_areExaminersSo 6 = .ok (.iconst 0, 1) := by decide +kernel
theorem dL_areExaminersSo_7 : decode cL_areExaminersSo 7 = .ok (.istore 4, 2) := by decide +kernel
theorem dL_areExaminersSo_9 : decode cL_areExaminersSo 9 = .ok (.iconst 0, 1) := by decide +kernel
theorem dL_areExaminersSo_10 : decode cL_areExaminersSo 10 = .ok (.istore 5, 2) := by decide +kernel
theorem dL_areExaminersSo_12 : decode cL_areExaminersSo 12 = .ok (.iload 5, 2) := by decide +kernel
theorem dL_areExaminersSo_14 : decode cL_areExaminersSo 14 = .ok (.aload_n 0, 1) := by decide +kernel
theorem dL_areExaminersSo_15 : decode cL_areExaminersSo 15 = .ok (.iconst 1, 1) := by decide +kernel
theorem dL_areExaminersSo_16 : decode cL_areExaminersSo 16 = .ok (.invokevirtual 8, 3) := by decide +kernel
theorem dL_areExaminersSo_19 : decode cL_areExaminersSo 19 = .ok (.if_icmp .ge 194, 3) := by decide +kernel
theorem dL_areExaminersSo_22 : decode cL_areExaminersSo 22 = .ok (.iconst 0, 1) := by decide +kernel
theorem dL_areExaminersSo_23 : decode cL_areExaminersSo 23 = .ok (.istore 6, 2) := by decide +kernel
theorem dL_areExaminersSo_25 : decode cL_areExaminersSo 25 = .ok (.iconst 0, 1) := by decide +kernel
theorem dL_areExaminersSo_26 : decode cL_areExaminersSo 26 = .ok (.istore 7, 2) := by decide +kernel
theorem dL_areExaminersSo_28 : decode cL_areExaminersSo 28 = .ok (.iconst 0, 1) := by decide +kernel
theorem dL_areExaminersSo_29 : decode cL_areExaminersSo 29 = .ok (.istore 8, 2) := by decide +kernel
theorem dL_areExaminersSo_31 : decode cL_areExaminersSo 31 = .ok (.iload 8, 2) := by decide +kernel
theorem dL_areExaminersSo_33 : decode cL_areExaminersSo 33 = .ok (.bipush 40, 2) := by decide +kernel
theorem dL_areExaminersSo_35 : decode cL_areExaminersSo 35 = .ok (.if_icmp .ge 73, 3) := by decide +kernel
theorem dL_areExaminersSo_38 : decode cL_areExaminersSo 38 = .ok (.aload_n 0, 1) := by decide +kernel
theorem dL_areExaminersSo_39 : decode cL_areExaminersSo 39 = .ok (.iload 5, 2) := by decide +kernel
theorem dL_areExaminersSo_41 : decode cL_areExaminersSo 41 = .ok (.iload 8, 2) := by decide +kernel
theorem dL_areExaminersSo_43 : decode cL_areExaminersSo 43 = .ok (.iconst 4, 1) := by decide +kernel
theorem dL_areExaminersSo_44 : decode cL_areExaminersSo 44 = .ok (.idiv, 1) := by decide +kernel
theorem dL_areExaminersSo_45 : decode cL_areExaminersSo 45 = .ok (.iload 8, 2) := by decide +kernel
theorem dL_areExaminersSo_47 : decode cL_areExaminersSo 47 = .ok (.iconst 4, 1) := by decide +kernel
theorem dL_areExaminersSo_48 : decode cL_areExaminersSo 48 = .ok (.irem, 1) := by decide +kernel
theorem dL_areExaminersSo_49 : decode cL_areExaminersSo 49 = .ok (.invokevirtual 49, 3) := by decide +kernel
theorem dL_areExaminersSo_52 : decode cL_areExaminersSo 52 = .ok (.istore 9, 2) := by decide +kernel
theorem dL_areExaminersSo_54 : decode cL_areExaminersSo 54 = .ok (.iload 6, 2) := by decide +kernel
theorem dL_areExaminersSo_56 : decode cL_areExaminersSo 56 = .ok (.iload 9, 2) := by decide +kernel
theorem dL_areExaminersSo_58 : decode cL_areExaminersSo 58 = .ok (.bipush (-2), 2) := by decide +kernel
theorem dL_areExaminersSo_60 : decode cL_areExaminersSo 60 = .ok (.if_icmp .ne 7, 3) := by decide +kernel
theorem dL_areExaminersSo_63 : decode cL_areExaminersSo 63 = .ok (.iconst 1, 1) := by decide +kernel
theorem dL_areExaminersSo_64 : decode cL_areExaminersSo 64 = .ok (.goto 4, 3) := by decide +kernel
theorem dL_areExaminersSo_67 : decode cL_areExaminersSo 67 = .ok (.iconst 0, 1) := by decide +kernel
theorem dL_areExaminersSo_68 : decode cL_areExaminersSo 68 = .ok (.iadd, 1) := by decide +kernel
theorem dL_areExaminersSo_69 : decode cL_areExaminersSo 69 = .ok (.istore 6, 2) := by decide +kernel
theorem dL_areExaminersSo_71 : decode cL_areExaminersSo 71 = .ok (.iload 7, 2) := by decide +kernel
theorem dL_areExaminersSo_73 : decode cL_areExaminersSo 73 = .ok (.iload 9, 2) := by decide +kernel
theorem dL_areExaminersSo_75 : decode cL_areExaminersSo 75 = .ok (.iconst (-1), 1) := by decide +kernel
theorem dL_areExaminersSo_76 : decode cL_areExaminersSo 76 = .ok (.if_icmp .ne 7, 3) := by decide +kernel
theorem dL_areExaminersSo_79 : decode cL_areExaminersSo 79 = .ok (.iconst 1, 1) := by decide +kernel
theorem dL_areExaminersSo_80 : decode cL_areExaminersSo 80 = .ok (.goto 4, 3) := by decide +kernel
theorem dL_areExaminersSo_83 : decode cL_areExaminersSo 83 = .ok (.iconst 0, 1) := by decide +kernel
theorem dL_areExaminersSo_84 : decode cL_areExaminersSo 84 = .ok (.iadd, 1) := by decide +kernel
theorem dL_areExaminersSo_85 : decode cL_areExaminersSo 85 = .ok (.istore 7, 2) := by decide +kernel
theorem dL_areExaminersSo_87 : decode cL_areExaminersSo 87 = .ok (.iload 4, 2) := by decide +kernel
theorem dL_areExaminersSo_89 : decode cL_areExaminersSo 89 = .ok (.iload 9, 2) := by decide +kernel
theorem dL_areExaminersSo_91 : decode cL_areExaminersSo 91 = .ok (.ifCond .lt 7, 3) := by decide +kernel
theorem dL_areExaminersSo_94 : decode cL_areExaminersSo 94 = .ok (.iconst 1, 1) := by decide +kernel
theorem dL_areExaminersSo_95 : decode cL_areExaminersSo 95 = .ok (.goto 4, 3) := by decide +kernel
theorem dL_areExaminersSo_98 : decode cL_areExaminersSo 98 = .ok (.iconst 0, 1) := by decide +kernel
theorem dL_areExaminersSo_99 : decode cL_areExaminersSo 99 = .ok (.iadd, 1) := by decide +kernel
theorem dL_areExaminersSo_100 : decode cL_areExaminersSo 100 = .ok (.istore 4, 2) := by decide +kernel
theorem dL_areExaminersSo_102 : decode cL_areExaminersSo 102 = .ok (.iinc 8 1, 3) := by decide +kernel
theorem dL_areExaminersSo_105 : decode cL_areExaminersSo 105 = .ok (.goto (-74), 3) := by decide +kernel
theorem dL_areExaminersSo_108 : decode cL_areExaminersSo 108 = .ok (.iload_n 3, 1) := by decide +kernel
theorem dL_areExaminersSo_109 : decode cL_areExaminersSo 109 = .ok (.iload 7, 2) := by decide +kernel
theorem dL_areExaminersSo_111 : decode cL_areExaminersSo 111 = .ok (.iadd, 1) := by decide +kernel
theorem dL_areExaminersSo_112 : decode cL_areExaminersSo 112 = .ok (.istore_n 3, 1) := by decide +kernel
theorem dL_areExaminersSo_113 : decode cL_areExaminersSo 113 = .ok (.iload_n 1, 1) := by decide +kernel
theorem dL_areExaminersSo_114 : decode cL_areExaminersSo 114 = .ok (.aload_n 0, 1) := by decide +kernel
theorem dL_areExaminersSo_115 : decode cL_areExaminersSo 115 = .ok (.iload 5, 2) := by decide +kernel
theorem dL_areExaminersSo_117 : decode cL_areExaminersSo 117 = .ok (.iconst 0, 1) := by decide +kernel
theorem dL_areExaminersSo_118 : decode cL_areExaminersSo 118 = .ok (.invokevirtual 53, 3) := by decide +kernel
theorem dL_areExaminersSo_121 : decode cL_areExaminersSo 121 = .ok (.iadd, 1) := by decide +kernel
theorem dL_areExaminersSo_122 : decode cL_areExaminersSo 122 = .ok (.istore_n 1, 1) := by decide +kernel
theorem dL_areExaminersSo_123 : decode cL_areExaminersSo 123 = .ok (.iload_n 2, 1) := by decide +kernel
theorem dL_areExaminersSo_124 : decode cL_areExaminersSo 124 = .ok (.aload_n 0, 1) := by decide +kernel
theorem dL_areExaminersSo_125 : decode cL_areExaminersSo 125 = .ok (.iload 5, 2) := by decide +kernel
theorem dL_areExaminersSo_127 : decode cL_areExaminersSo 127 = .ok (.iconst 1, 1) := by decide +kernel
theorem dL_areExaminersSo_128 : decode cL_areExaminersSo 128 = .ok (.invokevirtual 53, 3) := by decide +kernel
theorem dL_areExaminersSo_131 : decode cL_areExaminersSo 131 = .ok (.iadd, 1) := by decide +kernel
theorem dL_areExaminersSo_132 : decode cL_areExaminersSo 132 = .ok (.istore_n 2, 1) := by decide +kernel
theorem dL_areExaminersSo_133 : decode cL_areExaminersSo 133 = .ok (.aload_n 0, 1) := by decide +kernel
theorem dL_areExaminersSo_134 : decode cL_areExaminersSo 134 = .ok (.iload 5, 2) := by decide +kernel
theorem dL_areExaminersSo_136 : decode cL_areExaminersSo 136 = .ok (.iconst 5, 1) := by decide +kernel
theorem dL_areExaminersSo_137 : decode cL_areExaminersSo 137 = .ok (.invokevirtual 53, 3) := by decide +kernel
theorem dL_areExaminersSo_140 : decode cL_areExaminersSo 140 = .ok (.aload_n 0, 1) := by decide +kernel
theorem dL_areExaminersSo_141 : decode cL_areExaminersSo 141 = .ok (.iload 5, 2) := by decide +kernel
theorem dL_areExaminersSo_143 : decode cL_areExaminersSo 143 = .ok (.bipush 6, 2) := by decide +kernel
theorem dL_areExaminersSo_145 : decode cL_areExaminersSo 145 = .ok (.invokevirtual 53, 3) := by decide +kernel
theorem dL_areExaminersSo_148 : decode cL_areExaminersSo 148 = .ok (.iadd, 1) := by decide +kernel
theorem dL_areExaminersSo_149 : decode cL_areExaminersSo 149 = .ok (.aload_n 0, 1) := by decide +kernel
theorem dL_areExaminersSo_150 : decode cL_areExaminersSo 150 = .ok (.iload 5, 2) := by decide +kernel
theorem dL_areExaminersSo_152 : decode cL_areExaminersSo 152 = .ok (.bipush 7, 2) := by decide +kernel
theorem dL_areExaminersSo_154 : decode cL_areExaminersSo 154 = .ok (.invokevirtual 53, 3) := by decide +kernel
theorem dL_areExaminersSo_157 : decode cL_areExaminersSo 157 = .ok (.iadd, 1) := by decide +kernel
theorem dL_areExaminersSo_158 : decode cL_areExaminersSo 158 = .ok (.aload_n 0, 1) := by decide +kernel
theorem dL_areExaminersSo_159 : decode cL_areExaminersSo 159 = .ok (.iload 5, 2) := by decide +kernel
theorem dL_areExaminersSo_161 : decode cL_areExaminersSo 161 = .ok (.bipush 8, 2) := by decide +kernel
theorem dL_areExaminersSo_163 : decode cL_areExaminersSo 163 = .ok (.invokevirtual 53, 3) := by decide +kernel
theorem dL_areExaminersSo_166 : decode cL_areExaminersSo 166 = .ok (.iadd, 1) := by decide +kernel
theorem dL_areExaminersSo_167 : decode cL_areExaminersSo 167 = .ok (.istore 8, 2) := by decide +kernel
theorem dL_areExaminersSo_169 : decode cL_areExaminersSo 169 = .ok (.iload 7, 2) := by decide +kernel
theorem dL_areExaminersSo_171 : decode cL_areExaminersSo 171 = .ok (.aload_n 0, 1) := by decide +kernel
theorem dL_areExaminersSo_172 : decode cL_areExaminersSo 172 = .ok (.iload 5, 2) := by decide +kernel
theorem dL_areExaminersSo_174 : decode cL_areExaminersSo 174 = .ok (.iconst 2, 1) := by decide +kernel
theorem dL_areExaminersSo_175 : decode cL_areExaminersSo 175 = .ok (.invokevirtual 53, 3) := by decide +kernel
theorem dL_areExaminersSo_178 : decode cL_areExaminersSo 178 = .ok (.if_icmp .ne 27, 3) := by decide +kernel
theorem dL_areExaminersSo_181 : decode cL_areExaminersSo 181 = .ok (.iload 6, 2) := by decide +kernel
theorem dL_areExaminersSo_183 : decode cL_areExaminersSo 183 = .ok (.aload_n 0, 1) := by decide +kernel
theorem dL_areExaminersSo_184 : decode cL_areExaminersSo 184 = .ok (.iload 5, 2) := by decide +kernel
theorem dL_areExaminersSo_186 : decode cL_areExaminersSo 186 = .ok (.iconst 3, 1) := by decide +kernel
theorem dL_areExaminersSo_187 : decode cL_areExaminersSo 187 = .ok (.invokevirtual 53, 3) := by decide +kernel
theorem dL_areExaminersSo_190 : decode cL_areExaminersSo 190 = .ok (.if_icmp .ne 15, 3) := by decide +kernel
theorem dL_areExaminersSo_193 : decode cL_areExaminersSo 193 = .ok (.iload 8, 2) := by decide +kernel
theorem dL_areExaminersSo_195 : decode cL_areExaminersSo 195 = .ok (.aload_n 0, 1) := by decide +kernel
theorem dL_areExaminersSo_196 : decode cL_areExaminersSo 196 = .ok (.iload 5, 2) := by decide +kernel
theorem dL_areExaminersSo_198 : decode cL_areExaminersSo 198 = .ok (.iconst 0, 1) := by decide +kernel
theorem dL_areExaminersSo_199 : decode cL_areExaminersSo 199 = .ok (.invokevirtual 53, 3) := by decide +kernel
theorem dL_areExaminersSo_202 : decode cL_areExaminersSo 202 = .ok (.if_icmp .eq 5, 3) := by decide +kernel
theorem dL_areExaminersSo_205 : decode cL_areExaminersSo 205 = .ok (.iconst 0, 1) := by decide +kernel
theorem dL_areExaminersSo_206 : decode cL_areExaminersSo 206 = .ok (.ireturn, 1) := by decide +kernel
theorem dL_areExaminersSo_207 : decode cL_areExaminersSo 207 = .ok (.iinc 5 1, 3) := by decide +kernel
theorem dL_areExaminersSo_210 : decode cL_areExaminersSo 210 = .ok (.goto (-198), 3) := by decide +kernel
theorem dL_areExaminersSo_213 : decode cL_areExaminersSo 213 = .ok (.iload_n 1, 1) := by decide +kernel
theorem dL_areExaminersSo_214 : decode cL_areExaminersSo 214 = .ok (.aload_n 0, 1) := by decide +kernel
theorem dL_areExaminersSo_215 : decode cL_areExaminersSo 215 = .ok (.bipush 7, 2) := by decide +kernel
theorem dL_areExaminersSo_217 : decode cL_areExaminersSo 217 = .ok (.invokevirtual 8, 3) := by decide +kernel
theorem dL_areExaminersSo_220 : decode cL_areExaminersSo 220 = .ok (.if_icmp .ne 37, 3) := by decide +kernel
theorem dL_areExaminersSo_223 : decode cL_areExaminersSo 223 = .ok (.iload_n 2, 1) := by decide +kernel
theorem dL_areExaminersSo_224 : decode cL_areExaminersSo 224 = .ok (.aload_n 0, 1) := by decide +kernel
theorem dL_areExaminersSo_225 : decode cL_areExaminersSo 225 = .ok (.bipush 8, 2) := by decide +kernel
theorem dL_areExaminersSo_227 : decode cL_areExaminersSo 227 = .ok (.invokevirtual 8, 3) := by decide +kernel
theorem dL_areExaminersSo_230 : decode cL_areExaminersSo 230 = .ok (.if_icmp .ne 27, 3) := by decide +kernel
theorem dL_areExaminersSo_233 : decode cL_areExaminersSo 233 = .ok (.iload_n 3, 1) := by decide +kernel
theorem dL_areExaminersSo_234 : decode cL_areExaminersSo 234 = .ok (.aload_n 0, 1) := by decide +kernel
theorem dL_areExaminersSo_235 : decode cL_areExaminersSo 235 = .ok (.bipush 12, 2) := by decide +kernel
theorem dL_areExaminersSo_237 : decode cL_areExaminersSo 237 = .ok (.invokevirtual 8, 3) := by decide +kernel
theorem dL_areExaminersSo_240 : decode cL_areExaminersSo 240 = .ok (.if_icmp .ne 17, 3) := by decide +kernel
theorem dL_areExaminersSo_243 : decode cL_areExaminersSo 243 = .ok (.iload 4, 2) := by decide +kernel
theorem dL_areExaminersSo_245 : decode cL_areExaminersSo 245 = .ok (.aload_n 0, 1) := by decide +kernel
theorem dL_areExaminersSo_246 : decode cL_areExaminersSo 246 = .ok (.iconst 5, 1) := by decide +kernel
theorem dL_areExaminersSo_247 : decode cL_areExaminersSo 247 = .ok (.invokevirtual 8, 3) := by decide +kernel
theorem dL_areExaminersSo_250 : decode cL_areExaminersSo 250 = .ok (.if_icmp .ne 7, 3) := by decide +kernel
theorem dL_areExaminersSo_253 : decode cL_areExaminersSo 253 = .ok (.iconst 1, 1) := by decide +kernel
theorem dL_areExaminersSo_254 : decode cL_areExaminersSo 254 = .ok (.goto 4, 3) := by decide +kernel
theorem dL_areExaminersSo_257 : decode cL_areExaminersSo 257 = .ok (.iconst 0, 1) := by decide +kernel
theorem dL_areExaminersSo_258 : decode cL_areExaminersSo 258 = .ok (.ireturn, 1) := by decide +kernel
theorem dL_isCancelSo_0 : decode cL_isCancelSo 0 = .ok (.aload_n 0, 1) := by decide +kernel
theorem dL_isCancelSo_1 : decode cL_isCancelSo 1 = .ok (.iload_n 1, 1) := by decide +kernel
theorem dL_isCancelSo_2 : decode cL_isCancelSo 2 = .ok (.iload_n 2, 1) := by decide +kernel
theorem dL_isCancelSo_3 : decode cL_isCancelSo 3 = .ok (.iconst 0, 1) := by decide +kernel
theorem dL_isCancelSo_4 : decode cL_isCancelSo 4 = .ok (.invokevirtual 56, 3) := by decide +kernel
theorem dL_isCancelSo_7 : decode cL_isCancelSo 7 = .ok (.istore_n 3, 1) := by decide +kernel
theorem dL_isCancelSo_8 : decode cL_isCancelSo 8 = .ok (.aload_n 0, 1) := by decide +kernel
theorem dL_isCancelSo_9 : decode cL_isCancelSo 9 = .ok (.iload_n 1, 1) := by decide +kernel
theorem dL_isCancelSo_10 : decode cL_isCancelSo 10 = .ok (.iload_n 2, 1) := by decide +kernel
theorem dL_isCancelSo_11 : decode cL_isCancelSo 11 = .ok (.iconst 1, 1) := by decide +kernel
theorem dL_isCancelSo_12 : decode cL_isCancelSo 12 = .ok (.invokevirtual 56, 3) := by decide +kernel
theorem dL_isCancelSo_15 : decode cL_isCancelSo 15 = .ok (.istore 4, 2) := by decide +kernel
theorem dL_isCancelSo_17 : decode cL_isCancelSo 17 = .ok (.aload_n 0, 1) := by decide +kernel
theorem dL_isCancelSo_18 : decode cL_isCancelSo 18 = .ok (.iload_n 1, 1) := by decide +kernel
theorem dL_isCancelSo_19 : decode cL_isCancelSo 19 = .ok (.iload_n 2, 1) := by decide +kernel
theorem dL_isCancelSo_20 : decode cL_isCancelSo 20 = .ok (.iconst 2, 1) := by decide +kernel
theorem dL_isCancelSo_21 : decode cL_isCancelSo 21 = .ok (.invokevirtual 56, 3) := by decide +kernel
theorem dL_isCancelSo_24 : decode cL_isCancelSo 24 = .ok (.sipush 1000, 3) := by decide +kernel
theorem dL_isCancelSo_27 : decode cL_isCancelSo 27 = .ok (.isub, 1) := by decide +kernel
theorem dL_isCancelSo_28 : decode cL_isCancelSo 28 = .ok (.istore 5, 2) := by decide +kernel
theorem dL_isCancelSo_30 : decode cL_isCancelSo 30 = .ok (.aload_n 0, 1) := by decide +kernel
theorem dL_isCancelSo_31 : decode cL_isCancelSo 31 = .ok (.iload_n 1, 1) := by decide +kernel
theorem dL_isCancelSo_32 : decode cL_isCancelSo 32 = .ok (.iload_n 2, 1) := by decide +kernel
theorem dL_isCancelSo_33 : decode cL_isCancelSo 33 = .ok (.iconst 0, 1) := by decide +kernel
theorem dL_isCancelSo_34 : decode cL_isCancelSo 34 = .ok (.invokevirtual 49, 3) := by decide +kernel
theorem dL_isCancelSo_37 : decode cL_isCancelSo 37 = .ok (.istore 6, 2) := by decide +kernel
theorem dL_isCancelSo_39 : decode cL_isCancelSo 39 = .ok (.aload_n 0, 1) := by decide +kernel
theorem dL_isCancelSo_40 : decode cL_isCancelSo 40 = .ok (.iload_n 1, 1) := by decide +kernel
theorem dL_isCancelSo_41 : decode cL_isCancelSo 41 = .ok (.iload_n 2, 1) := by decide +kernel
theorem dL_isCancelSo_42 : decode cL_isCancelSo 42 = .ok (.iconst 1, 1) := by decide +kernel
theorem dL_isCancelSo_43 : decode cL_isCancelSo 43 = .ok (.invokevirtual 49, 3) := by decide +kernel
theorem dL_isCancelSo_46 : decode cL_isCancelSo 46 = .ok (.istore 7, 2) := by decide +kernel
theorem dL_isCancelSo_48 : decode cL_isCancelSo 48 = .ok (.aload_n 0, 1) := by decide +kernel
theorem dL_isCancelSo_49 : decode cL_isCancelSo 49 = .ok (.iload_n 1, 1) := by decide +kernel
theorem dL_isCancelSo_50 : decode cL_isCancelSo 50 = .ok (.iload_n 2, 1) := by decide +kernel
theorem dL_isCancelSo_51 : decode cL_isCancelSo 51 = .ok (.invokevirtual 36, 3) := by decide +kernel
theorem dL_isCancelSo_54 : decode cL_isCancelSo 54 = .ok (.iload_n 3, 1) := by decide +kernel
theorem dL_isCancelSo_55 : decode cL_isCancelSo 55 = .ok (.if_icmp .ne 56, 3) := by decide +kernel
theorem dL_isCancelSo_58 : decode cL_isCancelSo 58 = .ok (.aload_n 0, 1) := by decide +kernel
theorem dL_isCancelSo_59 : decode cL_isCancelSo 59 = .ok (.iload_n 1, 1) := by decide +kernel
theorem dL_isCancelSo_60 : decode cL_isCancelSo 60 = .ok (.iload_n 2, 1) := by decide +kernel
theorem dL_isCancelSo_61 : decode cL_isCancelSo 61 = .ok (.iconst 0, 1) := by decide +kernel
theorem dL_isCancelSo_62 : decode cL_isCancelSo 62 = .ok (.invokevirtual 49, 3) := by decide +kernel
theorem dL_isCancelSo_65 : decode cL_isCancelSo 65 = .ok (.bipush (-2), 2) := by decide +kernel
theorem dL_isCancelSo_67 : decode cL_isCancelSo 67 = .ok (.if_icmp .ne 44, 3) := by decide +kernel
theorem dL_isCancelSo_70 : decode cL_isCancelSo 70 = .ok (.aload_n 0, 1) := by decide +kernel
theorem dL_isCancelSo_71 : decode cL_isCancelSo 71 = .ok (.iload_n 1, 1) := by decide +kernel
theorem dL_isCancelSo_72 : decode cL_isCancelSo 72 = .ok (.iload_n 2, 1) := by decide +kernel
theorem dL_isCancelSo_73 : decode cL_isCancelSo 73 = .ok (.iconst 1, 1) := by decide +kernel
theorem dL_isCancelSo_74 : decode cL_isCancelSo 74 = .ok (.invokevirtual 49, 3) := by decide +kernel
theorem dL_isCancelSo_77 : decode cL_isCancelSo 77 = .ok (.bipush (-2), 2) := by decide +kernel
theorem dL_isCancelSo_79 : decode cL_isCancelSo 79 = .ok (.if_icmp .ne 32, 3) := by decide +kernel
theorem dL_isCancelSo_82 : decode cL_isCancelSo 82 = .ok (.iload_n 3, 1) := by decide +kernel
theorem dL_isCancelSo_83 : decode cL_isCancelSo 83 = .ok (.iload 6, 2) := by decide +kernel
theorem dL_isCancelSo_85 : decode cL_isCancelSo 85 = .ok (.ifCond .lt 7, 3) := by decide +kernel
theorem dL_isCancelSo_88 : decode cL_isCancelSo 88 = .ok (.iconst 1, 1) := by decide +kernel
theorem dL_isCancelSo_89 : decode cL_isCancelSo 89 = .ok (.goto 4, 3) := by decide +kernel
theorem dL_isCancelSo_92 : decode cL_isCancelSo 92 = .ok (.iconst 0, 1) := by decide +kernel
theorem dL_isCancelSo_93 : decode cL_isCancelSo 93 = .ok (.iload 7, 2) := by decide +kernel
theorem dL_isCancelSo_95 : decode cL_isCancelSo 95 = .ok (.ifCond .lt 7, 3) := by decide +kernel
theorem dL_isCancelSo_98 : decode cL_isCancelSo 98 = .ok (.iconst 1, 1) := by decide +kernel
theorem dL_isCancelSo_99 : decode cL_isCancelSo 99 = .ok (.goto 4, 3) := by decide +kernel
theorem dL_isCancelSo_102 : decode cL_isCancelSo 102 = .ok (.iconst 0, 1) := by decide +kernel
theorem dL_isCancelSo_103 : decode cL_isCancelSo 103 = .ok (.iadd, 1) := by decide +kernel
theorem dL_isCancelSo_104 : decode cL_isCancelSo 104 = .ok (.if_icmp .ne 7, 3) := by decide +kernel
theorem dL_isCancelSo_107 : decode cL_isCancelSo 107 = .ok (.iconst 1, 1) := by decide +kernel
theorem dL_isCancelSo_108 : decode cL_isCancelSo 108 = .ok (.goto 4, 3) := by decide +kernel
theorem dL_isCancelSo_111 : decode cL_isCancelSo 111 = .ok (.iconst 0, 1) := by decide +kernel
theorem dL_isCancelSo_112 : decode cL_isCancelSo 112 = .ok (.istore 8, 2) := by decide +kernel
theorem dL_isCancelSo_114 : decode cL_isCancelSo 114 = .ok (.iconst 0, 1) := by decide +kernel
theorem dL_isCancelSo_115 : decode cL_isCancelSo 115 = .ok (.istore 9, 2) := by decide +kernel
theorem dL_isCancelSo_117 : decode cL_isCancelSo 117 = .ok (.iconst 0, 1) := by decide +kernel
theorem dL_isCancelSo_118 : decode cL_isCancelSo 118 = .ok (.istore 10, 2) := by decide +kernel
theorem dL_isCancelSo_120 : decode cL_isCancelSo 120 = .ok (.iload 6, 2) := by decide +kernel
theorem dL_isCancelSo_122 : decode cL_isCancelSo 122 = .ok (.ifCond .lt 53, 3) := by decide +kernel
theorem dL_isCancelSo_125 : decode cL_isCancelSo 125 = .ok (.iload 9, 2) := by decide +kernel
theorem dL_isCancelSo_127 : decode cL_isCancelSo 127 = .ok (.aload_n 0, 1) := by decide +kernel
theorem dL_isCancelSo_128 : decode cL_isCancelSo 128 = .ok (.iload 6, 2) := by decide +kernel
theorem dL_isCancelSo_130 : decode cL_isCancelSo 130 = .ok (.iconst 0, 1) := by decide +kernel
theorem dL_isCancelSo_131 : decode cL_isCancelSo 131 = .ok (.invokevirtual 20, 3) := by decide +kernel
theorem dL_isCancelSo_134 : decode cL_isCancelSo 134 = .ok (.iconst 1, 1) := by decide +kernel
theorem dL_isCancelSo_135 : decode cL_isCancelSo 135 = .ok (.if_icmp .ne 7, 3) := by decide +kernel
theorem dL_isCancelSo_138 : decode cL_isCancelSo 138 = .ok (.iconst 1, 1) := by decide +kernel
theorem dL_isCancelSo_139 : decode cL_isCancelSo 139 = .ok (.goto 4, 3) := by decide +kernel
theorem dL_isCancelSo_142 : decode cL_isCancelSo 142 = .ok (.iconst 0, 1) := by decide +kernel
theorem dL_isCancelSo_143 : decode cL_isCancelSo 143 = .ok (.iadd, 1) := by decide +kernel
theorem dL_isCancelSo_144 : decode cL_isCancelSo 144 = .ok (.istore 9, 2) := by decide +kernel
theorem dL_isCancelSo_146 : decode cL_isCancelSo 146 = .ok (.iload 10, 2) := by decide +kernel
theorem dL_isCancelSo_148 : decode cL_isCancelSo 148 = .ok (.aload_n 0, 1) := by decide +kernel
theorem dL_isCancelSo_149 : decode cL_isCancelSo 149 = .ok (.iload 6, 2) := by decide +kernel
theorem dL_isCancelSo_151 : decode cL_isCancelSo 151 = .ok (.iconst 0, 1) := by decide +kernel
theorem dL_isCancelSo_152 : decode cL_isCancelSo 152 = .ok (.invokevirtual 20, 3) := by decide +kernel
theorem dL_isCancelSo_155 : decode cL_isCancelSo 155 = .ok (.iconst 1, 1) := by decide +kernel
theorem dL_isCancelSo_156 : decode cL_isCancelSo 156 = .ok (.if_icmp .ne 7, 3) := by decide +kernel
theorem dL_isCancelSo_159 : decode cL_isCancelSo 159 = .ok (.iconst 0, 1) := by decide +kernel
theorem dL_isCancelSo_160 : decode cL_isCancelSo 160 = .ok (.goto 12, 3) := by decide +kernel
theorem dL_isCancelSo_163 : decode cL_isCancelSo 163 = .ok (.aload_n 0, 1) := by decide +kernel
theorem dL_isCancelSo_164 : decode cL_isCancelSo 164 = .ok (.iload 6, 2) := by decide +kernel
theorem dL_isCancelSo_166 : decode cL_isCancelSo 166 = .ok (.iconst 5, 1) := by decide +kernel
theorem dL_isCancelSo_167 : decode cL_isCancelSo 167 = .ok (.invokevirtual 20, 3) := by decide +kernel
theorem dL_isCancelSo_170 : decode cL_isCancelSo 170 = .ok (.iload_n 2, 1) := by decide +kernel
theorem dL_isCancelSo_171 : decode cL_isCancelSo 171 = .ok (.isub, 1) := by decide +kernel
theorem dL_isCancelSo_172 : decode cL_isCancelSo 172 = .ok (.iadd, 1) := by decide +kernel
theorem dL_isCancelSo_173 : decode cL_isCancelSo 173 = .ok (.istore 10, 2) := by decide +kernel
theorem dL_isCancelSo_175 : decode cL_isCancelSo 175 = .ok (.iload 7, 2) := by decide +kernel
theorem dL_isCancelSo_177 : decode cL_isCancelSo 177 = .ok (.ifCond .lt 53, 3) := by decide +kernel
theorem dL_isCancelSo_180 : decode cL_isCancelSo 180 = .ok (.iload 9, 2) := by decide +kernel
theorem dL_isCancelSo_182 : decode cL_isCancelSo 182 = .ok (.aload_n 0, 1) := by decide +kernel
theorem dL_isCancelSo_183 : decode cL_isCancelSo 183 = .ok (.iload 7, 2) := by decide +kernel
theorem dL_isCancelSo_185 : decode cL_isCancelSo 185 = .ok (.iconst 0, 1) := by decide +kernel
theorem dL_isCancelSo_186 : decode cL_isCancelSo 186 = .ok (.invokevirtual 20, 3) := by decide +kernel
theorem dL_isCancelSo_189 : decode cL_isCancelSo 189 = .ok (.iconst 1, 1) := by decide +kernel
theorem dL_isCancelSo_190 : decode cL_isCancelSo 190 = .ok (.if_icmp .ne 7, 3) := by decide +kernel
theorem dL_isCancelSo_193 : decode cL_isCancelSo 193 = .ok (.iconst 1, 1) := by decide +kernel
theorem dL_isCancelSo_194 : decode cL_isCancelSo 194 = .ok (.goto 4, 3) := by decide +kernel
theorem dL_isCancelSo_197 : decode cL_isCancelSo 197 = .ok (.iconst 0, 1) := by decide +kernel
theorem dL_isCancelSo_198 : decode cL_isCancelSo 198 = .ok (.iadd, 1) := by decide +kernel
theorem dL_isCancelSo_199 : decode cL_isCancelSo 199 = .ok (.istore 9, 2) := by decide +kernel
theorem dL_isCancelSo_201 : decode cL_isCancelSo 201 = .ok (.iload 10, 2) := by decide +kernel
theorem dL_isCancelSo_203 : decode cL_isCancelSo 203 = .ok (.aload_n 0, 1) := by decide +kernel
theorem dL_isCancelSo_204 : decode cL_isCancelSo 204 = .ok (.iload 7, 2) := by decide +kernel
theorem dL_isCancelSo_206 : decode cL_isCancelSo 206 = .ok (.iconst 0, 1) := by decide +kernel
theorem dL_isCancelSo_207 : decode cL_isCancelSo 207 = .ok (.invokevirtual 20, 3) := by decide +kernel
theorem dL_isCancelSo_210 : decode cL_isCancelSo 210 = .ok (.iconst 1, 1) := by decide +kernel
theorem dL_isCancelSo_211 : decode cL_isCancelSo 211 = .ok (.if_icmp .ne 7, 3) := by decide +kernel
theorem dL_isCancelSo_214 : decode cL_isCancelSo 214 = .ok (.iconst 0, 1) := by decide +kernel
theorem dL_isCancelSo_215 : decode cL_isCancelSo 215 = .ok (.goto 12, 3) := by decide +kernel
theorem dL_isCancelSo_218 : decode cL_isCancelSo 218 = .ok (.aload_n 0, 1) := by decide +kernel
theorem dL_isCancelSo_219 : decode cL_isCancelSo 219 = .ok (.iload 7, 2) := by decide +kernel
theorem dL_isCancelSo_221 : decode cL_isCancelSo 221 = .ok (.iconst 5, 1) := by decide +kernel
theorem dL_isCancelSo_222 : decode cL_isCancelSo 222 = .ok (.invokevirtual 20, 3) := by decide +kernel
theorem dL_isCancelSo_225 : decode cL_isCancelSo 225 = .ok (.iload_n 2, 1) := by decide +kernel
theorem dL_isCancelSo_226 : decode cL_isCancelSo 226 = .ok (.isub, 1) := by decide +kernel
theorem dL_isCancelSo_227 : decode cL_isCancelSo 227 = .ok (.iadd, 1) := by decide +kernel
theorem dL_isCancelSo_228 : decode cL_isCancelSo 228 = .ok (.istore 10, 2) := by decide +kernel
theorem dL_isCancelSo_230 : decode cL_isCancelSo 230 = .ok (.aload_n 0, 1) := by decide +kernel
theorem dL_isCancelSo_231 : decode cL_isCancelSo 231 = .ok (.invokevirtual 59, 3) := by decide +kernel
theorem dL_isCancelSo_234 : decode cL_isCancelSo 234 = .ok (.istore 11, 2) := by decide +kernel
theorem dL_isCancelSo_236 : decode cL_isCancelSo 236 = .ok (.iload 8, 2) := by decide +kernel
theorem dL_isCancelSo_238 : decode cL_isCancelSo 238 = .ok (.ifCond .eq 50, 3) := by decide +kernel
theorem dL_isCancelSo_241 : decode cL_isCancelSo 241 = .ok (.iload 9, 2) := by decide +kernel
theorem dL_isCancelSo_243 : decode cL_isCancelSo 243 = .ok (.iload 4, 2) := by decide +kernel
theorem dL_isCancelSo_245 : decode cL_isCancelSo 245 = .ok (.if_icmp .ne 43, 3) := by decide +kernel
theorem dL_isCancelSo_248 : decode cL_isCancelSo 248 = .ok (.iload 10, 2) := by decide +kernel
theorem dL_isCancelSo_250 : decode cL_isCancelSo 250 = .ok (.iload 5, 2) := by decide +kernel
theorem dL_isCancelSo_252 : decode cL_isCancelSo 252 = .ok (.if_icmp .ne 36, 3) := by decide +kernel
theorem dL_isCancelSo_255 : decode cL_isCancelSo 255 = .ok (.iload 11, 2) := by decide +kernel
theorem dL_isCancelSo_257 : decode cL_isCancelSo 257 = .ok (.ifCond .lt 31, 3) := by decide +kernel
theorem dL_isCancelSo_260 : decode cL_isCancelSo 260 = .ok (.aload_n 0, 1) := by decide +kernel
theorem dL_isCancelSo_261 : decode cL_isCancelSo 261 = .ok (.iload_n 1, 1) := by decide +kernel
theorem dL_isCancelSo_262 : decode cL_isCancelSo 262 = .ok (.iload_n 2, 1) := by decide +kernel
theorem dL_isCancelSo_263 : decode cL_isCancelSo 263 = .ok (.iconst 0, 1) := by decide +kernel
theorem dL_isCancelSo_264 : decode cL_isCancelSo 264 = .ok (.invokevirtual 49, 3) := by decide +kernel
theorem dL_isCancelSo_267 : decode cL_isCancelSo 267 = .ok (.iload 6, 2) := by decide +kernel
theorem dL_isCancelSo_269 : decode cL_isCancelSo 269 = .ok (.if_icmp .ne 19, 3) := by decide +kernel
theorem dL_isCancelSo_272 : decode cL_isCancelSo 272 = .ok (.aload_n 0, 1) := by decide +kernel
theorem dL_isCancelSo_273 : decode cL_isCancelSo 273 = .ok (.iload_n 1, 1) := by decide +kernel
theorem dL_isCancelSo_274 : decode cL_isCancelSo 274 = .ok (.iload_n 2, 1) := by decide +kernel
theorem dL_isCancelSo_275 : decode cL_isCancelSo 275 = .ok (.iconst 1, 1) := by decide +kernel
theorem dL_isCancelSo_276 : decode cL_isCancelSo 276 = .ok (.invokevirtual 49, 3) := by decide +kernel
theorem dL_isCancelSo_279 : decode cL_isCancelSo 279 = .ok (.iload 7, 2) := by decide +kernel
theorem dL_isCancelSo_281 : decode cL_isCancelSo 281 = .ok (.if_icmp .ne 7, 3) := by decide +kernel
theorem dL_isCancelSo_284 : decode cL_isCancelSo 284 = .ok (.iconst 1, 1) := by decide +kernel
theorem dL_isCancelSo_285 : decode cL_isCancelSo 285 = .ok (.goto 4, 3) := by decide +kernel
theorem dL_isCancelSo_288 : decode cL_isCancelSo 288 = .ok (.iconst 0, 1) := by decide +kernel
theorem dL_isCancelSo_289 : decode cL_isCancelSo 289 = .ok (.ireturn, 1) := by decide +kernel
theorem dL_isAskSo_0 : decode cL_isAskSo 0 = .ok (.aload_n 0, 1) := by decide +kernel
theorem dL_isAskSo_1 : decode cL_isAskSo 1 = .ok (.iload_n 1, 1) := by decide +kernel
theorem dL_isAskSo_2 : decode cL_isAskSo 2 = .ok (.iconst 0, 1) := by decide +kernel
theorem dL_isAskSo_3 : decode cL_isAskSo 3 = .ok (.invokevirtual 20, 3) := by decide +kernel
theorem dL_isAskSo_6 : decode cL_isAskSo 6 = .ok (.ifCond .eq 5, 3) := by decide +kernel
theorem dL_isAskSo_9 : decode cL_isAskSo 9 = .ok (.iconst 1, 1) := by decide +kernel
theorem dL_isAskSo_10 : decode cL_isAskSo 10 = .ok (.ireturn, 1) := by decide +kernel
theorem dL_isAskSo_11 : decode cL_isAskSo 11 = .ok (.aload_n 0, 1) := by decide +kernel
theorem dL_isAskSo_12 : decode cL_isAskSo 12 = .ok (.iload_n 1, 1) := by decide +kernel
theorem dL_isAskSo_13 : decode cL_isAskSo 13 = .ok (.bipush 10, 2) := by decide +kernel
theorem dL_isAskSo_15 : decode cL_isAskSo 15 = .ok (.invokevirtual 20, 3) := by decide +kernel
theorem dL_isAskSo_18 : decode cL_isAskSo 18 = .ok (.istore_n 2, 1) := by decide +kernel
theorem dL_isAskSo_19 : decode cL_isAskSo 19 = .ok (.aload_n 0, 1) := by decide +kernel
theorem dL_isAskSo_20 : decode cL_isAskSo 20 = .ok (.iload_n 1, 1) := by decide +kernel
theorem dL_isAskSo_21 : decode cL_isAskSo 21 = .ok (.invokevirtual 30, 3) := by decide +kernel
theorem dL_isAskSo_24 : decode cL_isAskSo 24 = .ok (.istore_n 3, 1) := by decide +kernel
theorem dL_isAskSo_25 : decode cL_isAskSo 25 = .ok (.iload_n 3, 1) := by decide +kernel
theorem dL_isAskSo_26 : decode cL_isAskSo 26 = .ok (.aload_n 0, 1) := by decide +kernel
theorem dL_isAskSo_27 : decode cL_isAskSo 27 = .ok (.iload_n 1, 1) := by decide +kernel
theorem dL_isAskSo_28 : decode cL_isAskSo 28 = .ok (.iconst 5, 1) := by decide +kernel
theorem dL_isAskSo_29 : decode cL_isAskSo 29 = .ok (.invokevirtual 20, 3) := by decide +kernel
theorem dL_isAskSo_32 : decode cL_isAskSo 32 = .ok (.if_icmp .ne 38, 3) := by decide +kernel
theorem dL_isAskSo_35 : decode cL_isAskSo 35 = .ok (.aload_n 0, 1) := by decide +kernel
theorem dL_isAskSo_36 : decode cL_isAskSo 36 = .ok (.iload_n 1, 1) := by decide +kernel
theorem dL_isAskSo_37 : decode cL_isAskSo 37 = .ok (.bipush 10, 2) := by decide +kernel
theorem dL_isAskSo_39 : decode cL_isAskSo 39 = .ok (.invokevirtual 20, 3) := by decide +kernel
theorem dL_isAskSo_42 : decode cL_isAskSo 42 = .ok (.iload_n 2, 1) := by decide +kernel
theorem dL_isAskSo_43 : decode cL_isAskSo 43 = .ok (.aload_n 0, 1) := by decide +kernel
theorem dL_isAskSo_44 : decode cL_isAskSo 44 = .ok (.iconst 3, 1) := by decide +kernel
theorem dL_isAskSo_45 : decode cL_isAskSo 45 = .ok (.invokevirtual 62, 3) := by decide +kernel
theorem dL_isAskSo_48 : decode cL_isAskSo 48 = .ok (.iadd, 1) := by decide +kernel
theorem dL_isAskSo_49 : decode cL_isAskSo 49 = .ok (.if_icmp .ne 21, 3) := by decide +kernel
theorem dL_isAskSo_52 : decode cL_isAskSo 52 = .ok (.iload_n 3, 1) := by decide +kernel
theorem dL_isAskSo_53 : decode cL_isAskSo 53 = .ok (.ifCond .ge 13, 3) := by decide +kernel
theorem dL_isAskSo_56 : decode cL_isAskSo 56 = .ok (.aload_n 0, 1) := by decide +kernel
theorem dL_isAskSo_57 : decode cL_isAskSo 57 = .ok (.iload_n 1, 1) := by decide +kernel
theorem dL_isAskSo_58 : decode cL_isAskSo 58 = .ok (.iconst 0, 1) := by decide +kernel
theorem dL_isAskSo_59 : decode cL_isAskSo 59 = .ok (.invokevirtual 65, 3) := by decide +kernel
theorem dL_isAskSo_62 : decode cL_isAskSo 62 = .ok (.iconst (-1), 1) := by decide +kernel
theorem dL_isAskSo_63 : decode cL_isAskSo 63 = .ok (.if_icmp .ne 7, 3) := by decide +kernel
theorem dL_isAskSo_66 : decode cL_isAskSo 66 = .ok (.iconst 1, 1) := by decide +kernel
theorem dL_isAskSo_67 : decode cL_isAskSo 67 = .ok (.goto 4, 3) := by decide +kernel
theorem dL_isAskSo_70 : decode cL_isAskSo 70 = .ok (.iconst 0, 1) := by decide +kernel
theorem dL_isAskSo_71 : decode cL_isAskSo 71 = .ok (.istore 4, 2) := by decide +kernel
theorem dL_isAskSo_73 : decode cL_isAskSo 73 = .ok (.aload_n 0, 1) := by decide +kernel
theorem dL_isAskSo_74 : decode cL_isAskSo 74 = .ok (.iload_n 1, 1) := by decide +kernel
theorem dL_isAskSo_75 : decode cL_isAskSo 75 = .ok (.invokevirtual 33, 3) := by decide +kernel
theorem dL_isAskSo_78 : decode cL_isAskSo 78 = .ok (.istore 5, 2) := by decide +kernel
theorem dL_isAskSo_80 : decode cL_isAskSo 80 = .ok (.iload 4, 2) := by decide +kernel
theorem dL_isAskSo_82 : decode cL_isAskSo 82 = .ok (.ifCond .eq 43, 3) := by decide +kernel
theorem dL_isAskSo_85 : decode cL_isAskSo 85 = .ok (.iload 5, 2) := by decide +kernel
theorem dL_isAskSo_87 : decode cL_isAskSo 87 = .ok (.iload_n 3, 1) := by decide +kernel
theorem dL_isAskSo_88 : decode cL_isAskSo 88 = .ok (.ifCond .lt 16, 3) := by decide +kernel
theorem dL_isAskSo_91 : decode cL_isAskSo 91 = .ok (.iload_n 3, 1) := by decide +kernel
theorem dL_isAskSo_92 : decode cL_isAskSo 92 = .ok (.aload_n 0, 1) := by decide +kernel
theorem dL_isAskSo_93 : decode cL_isAskSo 93 = .ok (.iconst 2, 1) := by decide +kernel
theorem dL_isAskSo_94 : decode cL_isAskSo 94 = .ok (.invokevirtual 62, 3) := by decide +kernel
theorem dL_isAskSo_97 : decode cL_isAskSo 97 = .ok (.if_icmp .ge 7, 3) := by decide +kernel
theorem dL_isAskSo_100 : decode cL_isAskSo 100 = .ok (.iconst 0, 1) := by decide +kernel
theorem dL_isAskSo_101 : decode cL_isAskSo 101 = .ok (.goto 8, 3) := by decide +kernel
theorem dL_isAskSo_104 : decode cL_isAskSo 104 = .ok (.aload_n 0, 1) := by decide +kernel
theorem dL_isAskSo_105 : decode cL_isAskSo 105 = .ok (.iconst 3, 1) := by decide +kernel
theorem dL_isAskSo_106 : decode cL_isAskSo 106 = .ok (.invokevirtual 62, 3) := by decide +kernel
theorem dL_isAskSo_109 : decode cL_isAskSo 109 = .ok (.if_icmp .ne 16, 3) := by decide +kernel
theorem dL_isAskSo_112 : decode cL_isAskSo 112 = .ok (.aload_n 0, 1) := by decide +kernel
theorem dL_isAskSo_113 : decode cL_isAskSo 113 = .ok (.iload_n 1, 1) := by decide +kernel
theorem dL_isAskSo_114 : decode cL_isAskSo 114 = .ok (.iconst 0, 1) := by decide +kernel
theorem dL_isAskSo_115 : decode cL_isAskSo 115 = .ok (.invokevirtual 20, 3) := by decide +kernel
theorem dL_isAskSo_118 : decode cL_isAskSo 118 = .ok (.ifCond .ne 7, 3) := by decide +kernel
theorem dL_isAskSo_121 : decode cL_isAskSo 121 = .ok (.iconst 1, 1) := by decide +kernel
theorem dL_isAskSo_122 : decode cL_isAskSo 122 = .ok (.goto 4, 3) := by decide +kernel
theorem dL_isAskSo_125 : decode cL_isAskSo 125 = .ok (.iconst 0, 1) := by decide +kernel
theorem dL_isAskSo_126 : decode cL_isAskSo 126 = .ok (.istore 4, 2) := by decide +kernel
theorem dL_isAskSo_128 : decode cL_isAskSo 128 = .ok (.aload_n 0, 1) := by decide +kernel
theorem dL_isAskSo_129 : decode cL_isAskSo 129 = .ok (.invokevirtual 59, 3) := by decide +kernel
theorem dL_isAskSo_132 : decode cL_isAskSo 132 = .ok (.istore 6, 2) := by decide +kernel
theorem dL_isAskSo_134 : decode cL_isAskSo 134 = .ok (.aload_n 0, 1) := by decide +kernel
theorem dL_isAskSo_135 : decode cL_isAskSo 135 = .ok (.invokevirtual 59, 3) := by decide +kernel
theorem dL_isAskSo_138 : decode cL_isAskSo 138 = .ok (.istore 6, 2) := by decide +kernel
theorem dL_isAskSo_140 : decode cL_isAskSo 140 = .ok (.iload 4, 2) := by decide +kernel
theorem dL_isAskSo_142 : decode cL_isAskSo 142 = .ok (.ifCond .eq 23, 3) := by decide +kernel
theorem dL_isAskSo_145 : decode cL_isAskSo 145 = .ok (.iload 6, 2) := by decide +kernel
theorem dL_isAskSo_147 : decode cL_isAskSo 147 = .ok (.ifCond .lt 18, 3) := by decide +kernel
theorem dL_isAskSo_150 : decode cL_isAskSo 150 = .ok (.aload_n 0, 1) := by decide +kernel
theorem dL_isAskSo_151 : decode cL_isAskSo 151 = .ok (.iload_n 1, 1) := by decide +kernel
theorem dL_isAskSo_152 : decode cL_isAskSo 152 = .ok (.bipush 10, 2) := by decide +kernel
theorem dL_isAskSo_154 : decode cL_isAskSo 154 = .ok (.invokevirtual 20, 3) := by decide +kernel
theorem dL_isAskSo_157 : decode cL_isAskSo 157 = .ok (.iload_n 2, 1) := by decide +kernel
theorem dL_isAskSo_158 : decode cL_isAskSo 158 = .ok (.if_icmp .ne 7, 3) := by decide +kernel
theorem dL_isAskSo_161 : decode cL_isAskSo 161 = .ok (.iconst 1, 1) := by decide +kernel
theorem dL_isAskSo_162 : decode cL_isAskSo 162 = .ok (.goto 4, 3) := by decide +kernel
theorem dL_isAskSo_165 : decode cL_isAskSo 165 = .ok (.iconst 0, 1) := by decide +kernel
theorem dL_isAskSo_166 : decode cL_isAskSo 166 = .ok (.ireturn, 1) := by decide +kernel
theorem dL_couldSo_0 : decode cL_couldSo 0 = .ok (.aload_n 0, 1) := by decide +kernel
theorem dL_couldSo_1 : decode cL_couldSo 1 = .ok (.iload_n 1, 1) := by decide +kernel
theorem dL_couldSo_2 : decode cL_couldSo 2 = .ok (.invokevirtual 68, 3) := by decide +kernel
theorem dL_couldSo_5 : decode cL_couldSo 5 = .ok (.istore_n 2, 1) := by decide +kernel
theorem dL_couldSo_6 : decode cL_couldSo 6 = .ok (.iconst 0, 1) := by decide +kernel
theorem dL_couldSo_7 : decode cL_couldSo 7 = .ok (.istore_n 3, 1) := by decide +kernel
theorem dL_couldSo_8 : decode cL_couldSo 8 = .ok (.iconst 0, 1) := by decide +kernel
theorem dL_couldSo_9 : decode cL_couldSo 9 = .ok (.istore 4, 2) := by decide +kernel
theorem dL_couldSo_11 : decode cL_couldSo 11 = .ok (.iload 4, 2) := by decide +kernel
theorem dL_couldSo_13 : decode cL_couldSo 13 = .ok (.iconst 4, 1) := by decide +kernel
theorem dL_couldSo_14 : decode cL_couldSo 14 = .ok (.aload_n 0, 1) := by decide +kernel
theorem dL_couldSo_15 : decode cL_couldSo 15 = .ok (.iconst 1, 1) := by decide +kernel
theorem dL_couldSo_16 : decode cL_couldSo 16 = .ok (.invokevirtual 8, 3) := by decide +kernel
theorem dL_couldSo_19 : decode cL_couldSo 19 = .ok (.imul, 1) := by decide +kernel
theorem dL_couldSo_20 : decode cL_couldSo 20 = .ok (.if_icmp .ge 34, 3) := by decide +kernel
theorem dL_couldSo_23 : decode cL_couldSo 23 = .ok (.iload_n 3, 1) := by decide +kernel
theorem dL_couldSo_24 : decode cL_couldSo 24 = .ok (.aload_n 0, 1) := by decide +kernel
theorem dL_couldSo_25 : decode cL_couldSo 25 = .ok (.iload 4, 2) := by decide +kernel
theorem dL_couldSo_27 : decode cL_couldSo 27 = .ok (.iconst 4, 1) := by decide +kernel
theorem dL_couldSo_28 : decode cL_couldSo 28 = .ok (.idiv, 1) := by decide +kernel
theorem dL_couldSo_29 : decode cL_couldSo 29 = .ok (.iload_n 1, 1) := by decide +kernel
theorem dL_couldSo_30 : decode cL_couldSo 30 = .ok (.iload 4, 2) := by decide +kernel
theorem dL_couldSo_32 : decode cL_couldSo 32 = .ok (.iconst 4, 1) := by decide +kernel
theorem dL_couldSo_33 : decode cL_couldSo 33 = .ok (.irem, 1) := by decide +kernel
theorem dL_couldSo_34 : decode cL_couldSo 34 = .ok (.invokevirtual 49, 3) := by decide +kernel
theorem dL_couldSo_37 : decode cL_couldSo 37 = .ok (.iconst (-1), 1) := by decide +kernel
theorem dL_couldSo_38 : decode cL_couldSo 38 = .ok (.if_icmp .ne 7, 3) := by decide +kernel
theorem dL_couldSo_41 : decode cL_couldSo 41 = .ok (.iconst 1, 1) := by decide +kernel
theorem dL_couldSo_42 : decode cL_couldSo 42 = .ok (.goto 4, 3) := by decide +kernel
theorem dL_couldSo_45 : decode cL_couldSo 45 = .ok (.iconst 0, 1) := by decide +kernel
theorem dL_couldSo_46 : decode cL_couldSo 46 = .ok (.iadd, 1) := by decide +kernel
theorem dL_couldSo_47 : decode cL_couldSo 47 = .ok (.istore_n 3, 1) := by decide +kernel
theorem dL_couldSo_48 : decode cL_couldSo 48 = .ok (.iinc 4 1, 3) := by decide +kernel
theorem dL_couldSo_51 : decode cL_couldSo 51 = .ok (.goto (-40), 3) := by decide +kernel
theorem dL_couldSo_54 : decode cL_couldSo 54 = .ok (.iload_n 2, 1) := by decide +kernel
theorem dL_couldSo_55 : decode cL_couldSo 55 = .ok (.ifCond .lt 27, 3) := by decide +kernel
theorem dL_couldSo_58 : decode cL_couldSo 58 = .ok (.iload_n 2, 1) := by decide +kernel
theorem dL_couldSo_59 : decode cL_couldSo 59 = .ok (.iload_n 3, 1) := by decide +kernel
theorem dL_couldSo_60 : decode cL_couldSo 60 = .ok (.if_icmp .gt 22, 3) := by decide +kernel
theorem dL_couldSo_63 : decode cL_couldSo 63 = .ok (.iload_n 2, 1) := by decide +kernel
theorem dL_couldSo_64 : decode cL_couldSo 64 = .ok (.aload_n 0, 1) := by decide +kernel
theorem dL_couldSo_65 : decode cL_couldSo 65 = .ok (.iconst 3, 1) := by decide +kernel
theorem dL_couldSo_66 : decode cL_couldSo 66 = .ok (.invokevirtual 8, 3) := by decide +kernel
theorem dL_couldSo_69 : decode cL_couldSo 69 = .ok (.aload_n 0, 1) := by decide +kernel
theorem dL_couldSo_70 : decode cL_couldSo 70 = .ok (.iconst 4, 1) := by decide +kernel
theorem dL_couldSo_71 : decode cL_couldSo 71 = .ok (.invokevirtual 8, 3) := by decide +kernel
theorem dL_couldSo_74 : decode cL_couldSo 74 = .ok (.iadd, 1) := by decide +kernel
theorem dL_couldSo_75 : decode cL_couldSo 75 = .ok (.if_icmp .gt 7, 3) := by decide +kernel
theorem dL_couldSo_78 : decode cL_couldSo 78 = .ok (.iconst 1, 1) := by decide +kernel
theorem dL_couldSo_79 : decode cL_couldSo 79 = .ok (.goto 4, 3) := by decide +kernel
theorem dL_couldSo_82 : decode cL_couldSo 82 = .ok (.iconst 0, 1) := by decide +kernel
theorem dL_couldSo_83 : decode cL_couldSo 83 = .ok (.ireturn, 1) := by decide +kernel
theorem dL_law_0 : decode cL_law 0 = .ok (.new 9, 3) := by decide +kernel
theorem dL_law_3 : decode cL_law 3 = .ok (.dup, 1) := by decide +kernel
theorem dL_law_4 : decode cL_law 4 = .ok (.invokespecial 71, 3) := by decide +kernel
theorem dL_law_7 : decode cL_law 7 = .ok (.astore_n 1, 1) := by decide +kernel
theorem dL_law_8 : decode cL_law 8 = .ok (.iconst 0, 1) := by decide +kernel
theorem dL_law_9 : decode cL_law 9 = .ok (.istore_n 2, 1) := by decide +kernel
theorem dL_law_10 : decode cL_law 10 = .ok (.iload_n 2, 1) := by decide +kernel
theorem dL_law_11 : decode cL_law 11 = .ok (.iconst 3, 1) := by decide +kernel
theorem dL_law_12 : decode cL_law 12 = .ok (.if_icmp .ge 14, 3) := by decide +kernel
theorem dL_law_15 : decode cL_law 15 = .ok (.aload_n 1, 1) := by decide +kernel
theorem dL_law_16 : decode cL_law 16 = .ok (.invokevirtual 23, 3) := by decide +kernel
theorem dL_law_19 : decode cL_law 19 = .ok (.istore_n 3, 1) := by decide +kernel
theorem dL_law_20 : decode cL_law 20 = .ok (.iinc 2 1, 3) := by decide +kernel
theorem dL_law_23 : decode cL_law 23 = .ok (.goto (-13), 3) := by decide +kernel
theorem dL_law_26 : decode cL_law 26 = .ok (.aload_n 1, 1) := by decide +kernel
theorem dL_law_27 : decode cL_law 27 = .ok (.invokevirtual 27, 3) := by decide +kernel
theorem dL_law_30 : decode cL_law 30 = .ok (.istore_n 2, 1) := by decide +kernel
theorem dL_law_31 : decode cL_law 31 = .ok (.iconst 0, 1) := by decide +kernel
theorem dL_law_32 : decode cL_law 32 = .ok (.istore_n 3, 1) := by decide +kernel
theorem dL_law_33 : decode cL_law 33 = .ok (.iload_n 3, 1) := by decide +kernel
theorem dL_law_34 : decode cL_law 34 = .ok (.bipush 52, 2) := by decide +kernel
theorem dL_law_36 : decode cL_law 36 = .ok (.if_icmp .ge 269, 3) := by decide +kernel
theorem dL_law_39 : decode cL_law 39 = .ok (.aload_n 0, 1) := by decide +kernel
theorem dL_law_40 : decode cL_law 40 = .ok (.iload_n 3, 1) := by decide +kernel
theorem dL_law_41 : decode cL_law 41 = .ok (.invokestatic 72, 3) := by decide +kernel
theorem dL_law_44 : decode cL_law 44 = .ok (.istore 4, 2) := by decide +kernel
theorem dL_law_46 : decode cL_law 46 = .ok (.aload_n 1, 1) := by decide +kernel
theorem dL_law_47 : decode cL_law 47 = .ok (.iconst 2, 1) := by decide +kernel
theorem dL_law_48 : decode cL_law 48 = .ok (.invokevirtual 8, 3) := by decide +kernel
theorem dL_law_51 : decode cL_law 51 = .ok (.istore 5, 2) := by decide +kernel
theorem dL_law_53 : decode cL_law 53 = .ok (.iload 4, 2) := by decide +kernel
theorem dL_law_55 : decode cL_law 55 = .ok (.iconst 4, 1) := by decide +kernel
theorem dL_law_56 : decode cL_law 56 = .ok (.ishr, 1) := by decide +kernel
theorem dL_law_57 : decode cL_law 57 = .ok (.iload 5, 2) := by decide +kernel
theorem dL_law_59 : decode cL_law 59 = .ok (.invokestatic 14, 3) := by decide +kernel
theorem dL_law_62 : decode cL_law 62 = .ok (.istore 6, 2) := by decide +kernel
theorem dL_law_64 : decode cL_law 64 = .ok (.iload 4, 2) := by decide +kernel
theorem dL_law_66 : decode cL_law 66 = .ok (.bipush 15, 2) := by decide +kernel
theorem dL_law_68 : decode cL_law 68 = .ok (.iand, 1) := by decide +kernel
theorem dL_law_69 : decode cL_law 69 = .ok (.bipush 8, 2) := by decide +kernel
theorem dL_law_71 : decode cL_law 71 = .ok (.if_icmp .le 38, 3) := by decide +kernel
theorem dL_law_74 : decode cL_law 74 = .ok (.iload 4, 2) := by decide +kernel
theorem dL_law_76 : decode cL_law 76 = .ok (.bipush 15, 2) := by decide +kernel
theorem dL_law_78 : decode cL_law 78 = .ok (.iand, 1) := by decide +kernel
theorem dL_law_79 : decode cL_law 79 = .ok (.bipush 12, 2) := by decide +kernel
theorem dL_law_81 : decode cL_law 81 = .ok (.if_icmp .ge 28, 3) := by decide +kernel
theorem dL_law_84 : decode cL_law 84 = .ok (.aload_n 1, 1) := by decide +kernel
theorem dL_law_85 : decode cL_law 85 = .ok (.iload 6, 2) := by decide +kernel
theorem dL_law_87 : decode cL_law 87 = .ok (.iconst 0, 1) := by decide +kernel
theorem dL_law_88 : decode cL_law 88 = .ok (.invokevirtual 20, 3) := by decide +kernel
theorem dL_law_91 : decode cL_law 91 = .ok (.iconst 2, 1) := by decide +kernel
theorem dL_law_92 : decode cL_law 92 = .ok (.if_icmp .ne 17, 3) := by decide +kernel
theorem dL_law_95 : decode cL_law 95 = .ok (.aload_n 1, 1) := by decide +kernel
theorem dL_law_96 : decode cL_law 96 = .ok (.iload 6, 2) := by decide +kernel
theorem dL_law_98 : decode cL_law 98 = .ok (.iconst 5, 1) := by decide +kernel
theorem dL_law_99 : decode cL_law 99 = .ok (.invokevirtual 20, 3) := by decide +kernel
theorem dL_law_102 : decode cL_law 102 = .ok (.ifCond .ne 7, 3) := by decide +kernel
theorem dL_law_105 : decode cL_law 105 = .ok (.iconst 1, 1) := by decide +kernel
theorem dL_law_106 : decode cL_law 106 = .ok (.goto 4, 3) := by decide +kernel
theorem dL_law_109 : decode cL_law 109 = .ok (.iconst 0, 1) := by decide +kernel
theorem dL_law_110 : decode cL_law 110 = .ok (.istore 7, 2) := by decide +kernel
theorem dL_law_112 : decode cL_law 112 = .ok (.iload 7, 2) := by decide +kernel
theorem dL_law_114 : decode cL_law 114 = .ok (.ifCond .eq 20, 3) := by decide +kernel
theorem dL_law_117 : decode cL_law 117 = .ok (.aload_n 1, 1) := by decide +kernel
theorem dL_law_118 : decode cL_law 118 = .ok (.iload 6, 2) := by decide +kernel
theorem dL_law_120 : decode cL_law 120 = .ok (.aload_n 1, 1) := by decide +kernel
theorem dL_law_121 : decode cL_law 121 = .ok (.iload 6, 2) := by decide +kernel
theorem dL_law_123 : decode cL_law 123 = .ok (.bipush 7, 2) := by decide +kernel
theorem dL_law_125 : decode cL_law 125 = .ok (.invokevirtual 20, 3) := by decide +kernel
theorem dL_law_128 : decode cL_law 128 = .ok (.invokevirtual 76, 3) := by decide +kernel
theorem dL_law_131 : decode cL_law 131 = .ok (.goto 4, 3) := by decide +kernel
theorem dL_law_134 : decode cL_law 134 = .ok (.iconst 0, 1) := by decide +kernel
theorem dL_law_135 : decode cL_law 135 = .ok (.istore 8, 2) := by decide +kernel
theorem dL_law_137 : decode cL_law 137 = .ok (.iload 7, 2) := by decide +kernel
theorem dL_law_139 : decode cL_law 139 = .ok (.ifCond .eq 13, 3) := by decide +kernel
theorem dL_law_142 : decode cL_law 142 = .ok (.aload_n 1, 1) := by decide +kernel
theorem dL_law_143 : decode cL_law 143 = .ok (.iload 6, 2) := by decide +kernel
theorem dL_law_145 : decode cL_law 145 = .ok (.iconst 3, 1) := by decide +kernel
theorem dL_law_146 : decode cL_law 146 = .ok (.invokevirtual 20, 3) := by decide +kernel
theorem dL_law_149 : decode cL_law 149 = .ok (.goto 4, 3) := by decide +kernel
theorem dL_law_152 : decode cL_law 152 = .ok (.iconst 0, 1) := by decide +kernel
theorem dL_law_153 : decode cL_law 153 = .ok (.istore 9, 2) := by decide +kernel
theorem dL_law_155 : decode cL_law 155 = .ok (.aload_n 1, 1) := by decide +kernel
theorem dL_law_156 : decode cL_law 156 = .ok (.iload 4, 2) := by decide +kernel
theorem dL_law_158 : decode cL_law 158 = .ok (.invokestatic 79, 3) := by decide +kernel
theorem dL_law_161 : decode cL_law 161 = .ok (.istore 10, 2) := by decide +kernel
theorem dL_law_163 : decode cL_law 163 = .ok (.iload 7, 2) := by decide +kernel
theorem dL_law_165 : decode cL_law 165 = .ok (.ifCond .eq 29, 3) := by decide +kernel
theorem dL_law_168 : decode cL_law 168 = .ok (.iload 10, 2) := by decide +kernel
theorem dL_law_170 : decode cL_law 170 = .ok (.iload 8, 2) := by decide +kernel
theorem dL_law_172 : decode cL_law 172 = .ok (.if_icmp .ne 43, 3) := by decide +kernel
theorem dL_law_175 : decode cL_law 175 = .ok (.iload 8, 2) := by decide +kernel
theorem dL_law_177 : decode cL_law 177 = .ok (.iload 9, 2) := by decide +kernel
theorem dL_law_179 : decode cL_law 179 = .ok (.if_icmp .eq 36, 3) := by decide +kernel
theorem dL_law_182 : decode cL_law 182 = .ok (.aload_n 1, 1) := by decide +kernel
theorem dL_law_183 : decode cL_law 183 = .ok (.iload 6, 2) := by decide +kernel
theorem dL_law_185 : decode cL_law 185 = .ok (.iconst 3, 1) := by decide +kernel
theorem dL_law_186 : decode cL_law 186 = .ok (.invokevirtual 20, 3) := by decide +kernel
theorem dL_law_189 : decode cL_law 189 = .ok (.iload 8, 2) := by decide +kernel
theorem dL_law_191 : decode cL_law 191 = .ok (.if_icmp .ne 24, 3) := by decide +kernel
theorem dL_law_194 : decode cL_law 194 = .ok (.aload_n 1, 1) := by decide +kernel
theorem dL_law_195 : decode cL_law 195 = .ok (.invokestatic 83, 3) := by decide +kernel
theorem dL_law_198 : decode cL_law 198 = .ok (.ifCond .eq 17, 3) := by decide +kernel
theorem dL_law_201 : decode cL_law 201 = .ok (.iload_n 3, 1) := by decide +kernel
theorem dL_law_202 : decode cL_law 202 = .ok (.iconst 3, 1) := by decide +kernel
theorem dL_law_203 : decode cL_law 203 = .ok (.irem, 1) := by decide +kernel
theorem dL_law_204 : decode cL_law 204 = .ok (.iconst 1, 1) := by decide +kernel
theorem dL_law_205 : decode cL_law 205 = .ok (.if_icmp .ne 12, 3) := by decide +kernel
theorem dL_law_208 : decode cL_law 208 = .ok (.aload_n 1, 1) := by decide +kernel
theorem dL_law_209 : decode cL_law 209 = .ok (.invokestatic 87, 3) := by decide +kernel
theorem dL_law_212 : decode cL_law 212 = .ok (.ifCond .ne 5, 3) := by decide +kernel
theorem dL_law_215 : decode cL_law 215 = .ok (.iconst 0, 1) := by decide +kernel
theorem dL_law_216 : decode cL_law 216 = .ok (.ireturn, 1) := by decide +kernel
theorem dL_law_217 : decode cL_law 217 = .ok (.iload_n 3, 1) := by decide +kernel
theorem dL_law_218 : decode cL_law 218 = .ok (.iconst 4, 1) := by decide +kernel
theorem dL_law_219 : decode cL_law 219 = .ok (.irem, 1) := by decide +kernel
theorem dL_law_220 : decode cL_law 220 = .ok (.iconst 2, 1) := by decide +kernel
theorem dL_law_221 : decode cL_law 221 = .ok (.if_icmp .ne 33, 3) := by decide +kernel
theorem dL_law_224 : decode cL_law 224 = .ok (.aload_n 1, 1) := by decide +kernel
theorem dL_law_225 : decode cL_law 225 = .ok (.iload 4, 2) := by decide +kernel
theorem dL_law_227 : decode cL_law 227 = .ok (.bipush 6, 2) := by decide +kernel
theorem dL_law_229 : decode cL_law 229 = .ok (.ishr, 1) := by decide +kernel
theorem dL_law_230 : decode cL_law 230 = .ok (.aload_n 1, 1) := by decide +kernel
theorem dL_law_231 : decode cL_law 231 = .ok (.iconst 1, 1) := by decide +kernel
theorem dL_law_232 : decode cL_law 232 = .ok (.invokevirtual 8, 3) := by decide +kernel
theorem dL_law_235 : decode cL_law 235 = .ok (.invokestatic 14, 3) := by decide +kernel
theorem dL_law_238 : decode cL_law 238 = .ok (.iload 4, 2) := by decide +kernel
theorem dL_law_240 : decode cL_law 240 = .ok (.bipush 9, 2) := by decide +kernel
theorem dL_law_242 : decode cL_law 242 = .ok (.ishr, 1) := by decide +kernel
theorem dL_law_243 : decode cL_law 243 = .ok (.bipush 10, 2) := by decide +kernel
theorem dL_law_245 : decode cL_law 245 = .ok (.invokestatic 14, 3) := by decide +kernel
theorem dL_law_248 : decode cL_law 248 = .ok (.invokestatic 90, 3) := by decide +kernel
theorem dL_law_251 : decode cL_law 251 = .ok (.ifCond .eq 46, 3) := by decide +kernel
theorem dL_law_254 : decode cL_law 254 = .ok (.iload_n 3, 1) := by decide +kernel
theorem dL_law_255 : decode cL_law 255 = .ok (.iconst 5, 1) := by decide +kernel
theorem dL_law_256 : decode cL_law 256 = .ok (.irem, 1) := by decide +kernel
theorem dL_law_257 : decode cL_law 257 = .ok (.iconst 3, 1) := by decide +kernel
theorem dL_law_258 : decode cL_law 258 = .ok (.if_icmp .ne 22, 3) := by decide +kernel
theorem dL_law_261 : decode cL_law 261 = .ok (.aload_n 1, 1) := by decide +kernel
theorem dL_law_262 : decode cL_law 262 = .ok (.iload 4, 2) := by decide +kernel
theorem dL_law_264 : decode cL_law 264 = .ok (.iconst 5, 1) := by decide +kernel
theorem dL_law_265 : decode cL_law 265 = .ok (.ishr, 1) := by decide +kernel
theorem dL_law_266 : decode cL_law 266 = .ok (.aload_n 1, 1) := by decide +kernel
theorem dL_law_267 : decode cL_law 267 = .ok (.iconst 2, 1) := by decide +kernel
theorem dL_law_268 : decode cL_law 268 = .ok (.invokevirtual 8, 3) := by decide +kernel
theorem dL_law_271 : decode cL_law 271 = .ok (.invokestatic 14, 3) := by decide +kernel
theorem dL_law_274 : decode cL_law 274 = .ok (.invokestatic 94, 3) := by decide +kernel
theorem dL_law_277 : decode cL_law 277 = .ok (.ifCond .eq 20, 3) := by decide +kernel
theorem dL_law_280 : decode cL_law 280 = .ok (.aload_n 1, 1) := by decide +kernel
theorem dL_law_281 : decode cL_law 281 = .ok (.iload 4, 2) := by decide +kernel
theorem dL_law_283 : decode cL_law 283 = .ok (.bipush 8, 2) := by decide +kernel
theorem dL_law_285 : decode cL_law 285 = .ok (.ishr, 1) := by decide +kernel
theorem dL_law_286 : decode cL_law 286 = .ok (.bipush 10, 2) := by decide +kernel
theorem dL_law_288 : decode cL_law 288 = .ok (.invokestatic 14, 3) := by decide +kernel
theorem dL_law_291 : decode cL_law 291 = .ok (.invokestatic 98, 3) := by decide +kernel
theorem dL_law_294 : decode cL_law 294 = .ok (.ifCond .ne 5, 3) := by decide +kernel
theorem dL_law_297 : decode cL_law 297 = .ok (.iconst 0, 1) := by decide +kernel
theorem dL_law_298 : decode cL_law 298 = .ok (.ireturn, 1) := by decide +kernel
theorem dL_law_299 : decode cL_law 299 = .ok (.iinc 3 1, 3) := by decide +kernel
theorem dL_law_302 : decode cL_law 302 = .ok (.goto (-269), 3) := by decide +kernel
theorem dL_law_305 : decode cL_law 305 = .ok (.iload_n 2, 1) := by decide +kernel
theorem dL_law_306 : decode cL_law 306 = .ok (.ifCond .ne 7, 3) := by decide +kernel
theorem dL_law_309 : decode cL_law 309 = .ok (.iconst 1, 1) := by decide +kernel
theorem dL_law_310 : decode cL_law 310 = .ok (.goto 4, 3) := by decide +kernel
theorem dL_law_313 : decode cL_law 313 = .ok (.iconst 0, 1) := by decide +kernel
theorem dL_law_314 : decode cL_law 314 = .ok (.ireturn, 1) := by decide +kernel
end
section
/-! THE PURE LAYER: values and memory without addresses. A value: int, long, double, or an object by its kind t, region r and number j.
Regions: 0..7 the offices (0 office, 1 trial, 2..7 saves), 8 the TestSlots object and its text, 9 the model, 10 what is only read, and the law's row.
Kinds: 0 Office, 1 settings, 2 diary, 3 queue, 4 Pupil, 5 Examiner, 6 routes, 7 pupils, 8 examiners, 10 TestSlots, 11 saves, 12 OrderText, 13 codes, 14 kinds, 15 numbers, 16 days,
20 TestSlotsModel, 21 s, 22 aside, 23 saved, 24 text, 25 order, 26 told, 27 has, 28 mine, 29 by, 30 isOn, 40 out, 41 script, 42 FIRST_SETTINGS, 43 HIGHEST_SETTINGS, 44 words, 45 their bytes. -/
abbrev PV : Type := Int32 ⊕ (Int64 ⊕ (UInt64 ⊕ (Nat × Nat × Nat)))
abbrev pI (x : Int32) : PV := .inl x
abbrev pL (x : Int64) : PV := .inr (.inl x)
abbrev pD (x : UInt64) : PV := .inr (.inr (.inl x))
abbrev pO (t r j : Nat) : PV := .inr (.inr (.inr (t, r, j)))
/-- ints by region, kind, number, place; two longs: 0 the law's out[0], 1 the model's digested -/
abbrev PM : Type := (Nat → Nat → Nat → Nat → Int32) × (Nat → Int64)
/-- the end of a method: a value or none, or an exception by its number -/
abbrev Ou : Type := Option PV ⊕ Nat
abbrev MD : Type := String × ByteArray × Nat × Option FieldType × List (Nat × Nat × Nat × Nat)
/-- what stays the same throughout: launch, slots of fields, classes of rows, addresses, the first new address, length and contents of the script -/
abbrev GG : Type := Launch × va_G × (Nat → ClassId) × (Nat → Nat → Nat → Nat) × Nat × Nat × (Nat → Int32)
abbrev gl (g : GG) : Launch := g.1
abbrev gD (g : GG) : va_G := g.2.1
abbrev gc (g : GG) : Nat → ClassId := g.2.2.1
abbrev ga (g : GG) : Nat → Nat → Nat → Nat := g.2.2.2.1
abbrev gN (g : GG) : Nat := g.2.2.2.2.1
abbrev gL (g : GG) : Nat := g.2.2.2.2.2.1
abbrev gx (g : GG) : Nat → Int32 := g.2.2.2.2.2.2
abbrev gA (g : GG) : Nat → Prop := fun q => gN g ≤ q
/-- what may be written -/
def trip : List (Nat × Nat × Nat) :=
  (List.range 8).flatMap (fun r => [(0, r, 0), (1, r, 0), (2, r, 0), (3, r, 0), (7, r, 0), (8, r, 0)] ++ (List.range 12).map (fun j => (4, r, j)) ++ (List.range 4).flatMap (fun j => [(5, r, j), (6, r, j)]))
  ++ [(10, 8, 0), (11, 8, 0), (12, 8, 0), (13, 8, 0), (14, 8, 0), (15, 8, 0), (16, 8, 0)]
def rtrip : List (Nat × Nat × Nat) := [(41, 10, 0), (42, 10, 0), (43, 10, 0)]
theorem trip_nodup : trip.Nodup := by decide +kernel
theorem rtrip_big : ∀ z ∈ rtrip, 41 ≤ z.1 := by decide +kernel
/-- fields by kind: 0 int, 1 boolean, 2 long, 3 a reference that stays: its kind, its region (0: the same, r + 1 else) -/
def fds (t : Nat) : List (Nat × Nat × Nat) :=
  if t = 0 then [(0, 0, 0), (0, 0, 0), (0, 0, 0), (0, 0, 0), (0, 0, 0), (3, 1, 0), (3, 2, 0), (3, 7, 0), (3, 8, 0), (3, 3, 0)] else
  if t = 4 then [(0, 0, 0), (0, 0, 0), (0, 0, 0), (0, 0, 0), (0, 0, 0), (0, 0, 0), (0, 0, 0), (0, 0, 0), (0, 0, 0)] else
  if t = 5 then [(3, 6, 0), (0, 0, 0), (0, 0, 0)] else
  if t = 10 then [(3, 0, 1), (3, 0, 2), (3, 11, 0), (0, 0, 0), (3, 12, 0)] else
  if t = 12 then [(3, 13, 0), (0, 0, 0), (0, 0, 0), (0, 0, 0), (3, 14, 0), (3, 15, 0), (3, 16, 0)] else
  if t = 20 then [(0, 0, 0), (3, 21, 0), (3, 22, 0), (3, 23, 0), (0, 0, 0), (3, 24, 0), (0, 0, 0), (3, 25, 0), (0, 0, 0), (1, 0, 0), (3, 26, 0), (3, 27, 0), (3, 28, 0), (3, 29, 0), (3, 30, 0), (2, 0, 0)] else
  []
/-- the number of the class among vwCl -/
def cix (t : Nat) : Nat :=
  if t = 0 then 1 else
  if t = 4 then 3 else
  if t = 5 then 0 else
  if t = 10 then 4 else
  if t = 12 then 2 else
  9
/-- rows: 0 int, 1 boolean, 2 long, 3 Pupil, 4 Examiner, 5 Office; and the length -/
def ark (t : Nat) : Option (Nat × Nat) :=
  if t = 1 then some (0, 4) else
  if t = 2 then some (0, 160) else
  if t = 3 then some (0, 12) else
  if t = 6 then some (0, 4) else
  if t = 7 then some (3, 12) else
  if t = 8 then some (4, 4) else
  if t = 11 then some (5, 6) else
  if t = 13 then some (0, 60) else
  if t = 14 then some (0, 60) else
  if t = 15 then some (0, 60) else
  if t = 16 then some (0, 60) else
  if t = 21 then some (0, 341) else
  if t = 22 then some (0, 341) else
  if t = 23 then some (0, 2046) else
  if t = 24 then some (0, 60) else
  if t = 25 then some (0, 12) else
  if t = 26 then some (0, 3) else
  if t = 27 then some (0, 16) else
  if t = 28 then some (0, 12) else
  if t = 29 then some (0, 16) else
  if t = 30 then some (1, 12) else
  if t = 40 then some (2, 1) else
  none
abbrev ix (x : Int32) : Nat := x.toNatClampNeg
def fvl (z : Nat × Nat × Nat) (m : PM) (k : Nat) (d : Nat × Nat × Nat) : PV :=
  if d.1 = 3 then (if d.2.2 = 0 then pO d.2.1 z.2.1 z.2.2 else pO d.2.1 (d.2.2 - 1) z.2.2) else if d.1 = 2 then pL (m.2 1) else pI (m.1 z.2.1 z.1 z.2.2 k)
def fget (z : Nat × Nat × Nat) (m : PM) (k : Nat) : Option PV := ((fds z.1)[k]?).map (fvl z m k)
def pv (g : GG) (v : PV) : Value := match v with
  | .inl x => .int x
  | .inr (.inl x) => .long x
  | .inr (.inr (.inl x)) => .double x
  | .inr (.inr (.inr z)) => .ref (ga g z.1 z.2.1 z.2.2)
def obv (g : GG) (m : PM) (z : Nat × Nat × Nat) : List Value := (List.range (fds z.1).length).map (fun k => match fget z m k with | some v => pv g v | none => .null)
def arc (g : GG) (m : PM) (z : Nat × Nat × Nat) (k : Nat) : (Nat → Int32) ⊕ (Nat → Int64) ⊕ (Nat → UInt32) ⊕ (Nat → UInt64) ⊕ (Nat → Option Nat) :=
  if k = 2 then .inr (.inl (fun i => if i = 0 then m.2 0 else 0)) else
  if k = 3 then .inr (.inr (.inr (.inr (fun i => some (ga g 4 z.2.1 i))))) else
  if k = 4 then .inr (.inr (.inr (.inr (fun i => some (ga g 5 z.2.1 i))))) else
  if k = 5 then .inr (.inr (.inr (.inr (fun i => some (ga g 0 (ix (m.1 8 11 0 i)) 0))))) else
  .inl (m.1 z.2.1 z.1 z.2.2)
def cellE (g : GG) (m : PM) (z : Nat × Nat × Nat) : va_E := match ark z.1 with
  | some (k, n) => .inl (gc g k, n, arc g m z k)
  | none => .inr (cix z.1, obv g m z)
def cells (g : GG) (m : PM) : va_W := trip.map (fun z => (ga g z.1 z.2.1 z.2.2, cellE g m z))
abbrev World (g : GG) (m : PM) (H : Heap) : Prop := va_P (gD g) vwCl (cells g m) H
/-- writing: a row of a kind in a region; a place of it; a long -/
def tset (τ : Nat → Nat → Nat → Int32) (t j : Nat) (f : Nat → Int32) : Nat → Nat → Nat → Int32 := fun t' => if t' = t then (fun j' => if j' = j then f else τ t' j') else τ t'
def rset (m : PM) (r : Nat) (τ : Nat → Nat → Nat → Int32) : PM := (fun r' => if r' = r then τ else m.1 r', m.2)
def setR (m : PM) (t r j : Nat) (f : Nat → Int32) : PM := rset m r (tset (m.1 r) t j f)
def setI (m : PM) (t r j k : Nat) (x : Int32) : PM := setR m t r j (upd (m.1 r t j) k x)
def setL (m : PM) (k : Nat) (x : Int64) : PM := (m.1, vp_updL m.2 k x)
theorem setR_s (m : PM) (t r j : Nat) (f : Nat → Int32) : (setR m t r j f).1 r t j = f := by simp [setR, rset, tset]
theorem setR_n (m : PM) {t r j : Nat} (f : Nat → Int32) {t' r' j' : Nat} (h : (t', r', j') ≠ (t, r, j)) : (setR m t r j f).1 r' t' j' = m.1 r' t' j' := by
  by_cases h1 : r' = r
  · subst h1
    by_cases h2 : t' = t
    · subst h2
      by_cases h3 : j' = j
      · subst h3
        exact absurd rfl h
      · simp [setR, rset, tset, h3]
    · simp [setR, rset, tset, h2]
  · simp [setR, rset, h1]
theorem setR_l (m : PM) (t r j : Nat) (f : Nat → Int32) : (setR m t r j f).2 = m.2 := rfl
/-- a kind and number are among what may be written, and their place in the list -/
theorem cells_at {g : GG} {m : PM} {z : Nat × Nat × Nat} {q0 : Nat} (h : trip[q0]? = some z) : (cells g m)[q0]? = some (ga g z.1 z.2.1 z.2.2, cellE g m z) := by
  simp [cells, List.getElem?_map, h]
theorem trip_inj {i j : Nat} {z : Nat × Nat × Nat} (hi : trip[i]? = some z) (hj : trip[j]? = some z) : i = j := by
  obtain ⟨h1, h2⟩ := List.getElem?_eq_some_iff.mp hi
  obtain ⟨h3, h4⟩ := List.getElem?_eq_some_iff.mp hj
  exact (List.getElem_inj trip_nodup).mp (h2.trans h4.symm)
theorem cells_set {g : GG} {m m' : PM} {z : Nat × Nat × Nat} {q0 : Nat} {e : va_E} (h : trip[q0]? = some z) (he : cellE g m' z = e) (ho : ∀ z' ∈ trip, z' ≠ z → cellE g m' z' = cellE g m z') : (cells g m).set q0 (ga g z.1 z.2.1 z.2.2, e) = cells g m' := by
  apply List.ext_getElem?
  intro i
  rw [List.getElem?_set]
  by_cases hi : q0 = i
  · subst hi
    rw [cells_at (m := m') h, he]
    have hl : q0 < (cells g m).length := by
      have := (List.getElem?_eq_some_iff.mp h).1
      simpa [cells] using this
    simp [hl]
  · rw [if_neg hi]
    cases hz : trip[i]? with
    | none => simp [cells, List.getElem?_map, hz]
    | some z' =>
      rw [cells_at hz, cells_at hz, ho z' (List.mem_of_getElem? hz) (fun q => hi (trip_inj h (q ▸ hz)))]
theorem fds_none {t : Nat} (h : 21 ≤ t) : fds t = [] := by
  unfold fds
  rw [if_neg (by omega), if_neg (by omega), if_neg (by omega), if_neg (by omega), if_neg (by omega), if_neg (by omega)]
theorem fds_tab : ∀ t, t < 21 → (fds t).all (fun p => p.1 != 2 || t == 20) = true := by decide +kernel
theorem fds_long {t k : Nat} {d : Nat × Nat × Nat} (h : (fds t)[k]? = some d) (h2 : d.1 = 2) : t = 20 := by
  rcases Nat.lt_or_ge t 21 with q | q
  · have := List.all_eq_true.mp (fds_tab t q) d (List.mem_of_getElem? h)
    rw [h2] at this
    simpa using this
  · rw [fds_none q] at h
    simp at h
theorem ark_tab : ∀ t, t < 41 → (ark t).all (fun p => (p.1 != 2 || t == 40) && (decide (p.1 < 5) || t == 11)) = true := by decide +kernel
theorem ark_none {t : Nat} (h : 41 ≤ t) : ark t = none := by
  unfold ark
  rw [if_neg (by omega), if_neg (by omega), if_neg (by omega), if_neg (by omega), if_neg (by omega), if_neg (by omega), if_neg (by omega), if_neg (by omega), if_neg (by omega), if_neg (by omega), if_neg (by omega), if_neg (by omega), if_neg (by omega), if_neg (by omega), if_neg (by omega), if_neg (by omega), if_neg (by omega), if_neg (by omega), if_neg (by omega), if_neg (by omega), if_neg (by omega), if_neg (by omega)]
theorem ark_both {t k n : Nat} (h : ark t = some (k, n)) : (k = 2 → t = 40) ∧ (5 ≤ k → t = 11) := by
  rcases Nat.lt_or_ge t 41 with q | q
  · have := ark_tab t q
    rw [h] at this
    simp at this
    exact ⟨fun e => this.1.resolve_left (fun z => z e), fun e => this.2.resolve_left (by omega)⟩
  · rw [ark_none q] at h
    cases h
theorem ark_long {t n : Nat} (h : ark t = some (2, n)) : t = 40 := (ark_both h).1 rfl
theorem ark_off {t k n : Nat} (h : ark t = some (k + 5, n)) : t = 11 := (ark_both h).2 (by omega)
/-- what a cell shows depends on its own row, on the longs, and (the saves) on its own row in its region -/
theorem cellE_kept {g : GG} {m m' : PM} {z : Nat × Nat × Nat} (h1 : m'.1 z.2.1 z.1 z.2.2 = m.1 z.2.1 z.1 z.2.2) (h2 : z.1 = 20 → m'.2 1 = m.2 1) (h3 : z.1 = 40 → m'.2 0 = m.2 0) (h4 : z.1 = 11 → m'.1 8 11 0 = m.1 8 11 0) : cellE g m' z = cellE g m z := by
  obtain ⟨t, r, j⟩ := z
  have h1' : m'.1 r t j = m.1 r t j := h1
  have hob : obv g m' (t, r, j) = obv g m (t, r, j) := by
    unfold obv
    refine List.map_congr_left fun k hk => ?_
    have e : fget (t, r, j) m' k = fget (t, r, j) m k := by
      unfold fget
      cases hd : (fds t)[k]? with
      | none => rfl
      | some d =>
        show some _ = some _
        unfold fvl
        by_cases e3 : d.1 = 3
        · rw [if_pos e3, if_pos e3]
        · rw [if_neg e3, if_neg e3]
          by_cases e2 : d.1 = 2
          · rw [if_pos e2, if_pos e2, h2 (fds_long hd e2)]
          · rw [if_neg e2, if_neg e2]
            show some (pI (m'.1 r t j k)) = some (pI (m.1 r t j k))
            rw [h1']
    rw [e]
  unfold cellE
  cases ha : ark (t, r, j).1 with
  | none => simp only [hob]
  | some kn =>
    obtain ⟨k, n⟩ := kn
    have ea : arc g m' (t, r, j) k = arc g m (t, r, j) k := by
      unfold arc
      by_cases e2 : k = 2
      · rw [if_pos e2, if_pos e2, h3 ((ark_both ha).1 e2)]
      · rw [if_neg e2, if_neg e2]
        by_cases e3 : k = 3
        · rw [if_pos e3, if_pos e3]
        · rw [if_neg e3, if_neg e3]
          by_cases e4 : k = 4
          · rw [if_pos e4, if_pos e4]
          · rw [if_neg e4, if_neg e4]
            by_cases e5 : k = 5
            · rw [if_pos e5, if_pos e5, h4 ((ark_both ha).2 (by omega))]
            · rw [if_neg e5, if_neg e5]
              show Sum.inl (m'.1 r t j) = Sum.inl (m.1 r t j)
              rw [h1']
    show Sum.inl _ = Sum.inl _
    rw [ea]
end
section
/-! THE CONTEXT: what every method knows of the state it starts in; and Wq: a method at a place, over the pure memory, comes to an end with Q -/
def gTbl : List Cond := lw_tbl.filter goodWord
theorem gTbl_good : GoodIn gTbl gTbl := goodIn_sub (fun _ h => h) (List.all_eq_true.mpr fun w h => (List.mem_filter.mp h).2)
theorem gT {w : Cond} (i : Nat) (h : lw_tbl[i]? = some w) (hg : goodWord w = true) : w ∈ gTbl := List.mem_filter.mpr ⟨List.mem_of_getElem? h, hg⟩
abbrev tysG (g : GG) : List (ClassId × FieldType) := [(gc g 0, .int), (gc g 1, .boolean), (gc g 2, .long), (gc g 3, .object "TestSlots$Pupil"), (gc g 4, .object "TestSlots$Examiner"), (gc g 5, .object "TestSlots$Office")]
/-- the exceptions' texts: their places in the constants of TestSlots -/
def exT : List (Nat × String) := [(39, "there are 4 examiners"), (54, "there are 12 pupils"), (65, "no such pupil"), (71, "the pupil is not idle"), (80, "the pupil has no slot, and does not wait"), (88, "no such examiner"), (96, "days is out of range"), (106, "the pupil has no slot of today"), (116, "the day would be above 9999"), (124, "no such setting"), (130, "value is out of range"), (135, "code is not 33 to 126"), (140, "the buffer has 60 characters"), (155, "the buffer is not complete orders"), (163, "there is no saved state"), (169, "what is not 0 to 10"), (174, "what is not 0 to 8"), (179, "days or slot is out of range"), (188, "what is not 0 to 14"), (193, "what is not 0 to 2"), (201, "days is out of range, or what is not 0 to 2"), (206, "no such pupil or examiner")]
/-- calls between nest mates: the class that calls, the place, the method -/
def nestW : List (String × Nat × MethodName) := [("TestSlots$Office", 103, yX4_daysTo), ("TestSlots$Office", 99, yX4_partOfCell), ("TestSlots$Office", 120, yX4_examinerAt), ("TestSlots$Office", 106, yX4_cellAt), ("TestSlots$Office", 64, yX3_init), ("TestSlots$Office", 65, yX0_init), ("TestSlots", 29, yX2_init)]
def fsT (k : Nat) : Value := .int (([3, 1, 2, 50] : List Int32).getD k 0)
def hsT (k : Nat) : Value := .int (([20, 1, 9, 999] : List Int32).getD k 0)
/-- what is only read -/
def Fz (g : GG) (U : State) (H : Heap) : Prop :=
  (va_X (ga g 41 10 0) (gL g) (gx g) U H ∧ ga g 41 10 0 < gN g) ∧
  (va_T .int (ga g 42 10 0) 4 fsT (gA g) U H ∧ va_Z "TestSlots" "FIRST_SETTINGS" "[I" (.ref (ga g 42 10 0)) (gA g) U H) ∧
  (va_T .int (ga g 43 10 0) 4 hsT (gA g) U H ∧ va_Z "TestSlots" "HIGHEST_SETTINGS" "[I" (.ref (ga g 43 10 0)) (gA g) U H) ∧
  True ∧ True ∧ True ∧ True ∧
  (∀ z ∈ nestW, va_Nw (.methodLinkNest z.1 z.2.1 z.2.2 "TestSlots") U) ∧ True
theorem Fz.to {g : GG} {u U : State} {H H1 : Heap} (h : Fz g u H) (hvm : u.vm.Alike U.vm) (hM : ∀ a i y h, va_Nw (.methodLinkNest a i y h) u → va_Nw (.methodLinkNest a i y h) U) (hN : gN g ≤ H.size) (hq : ∀ q : Nat, q < H.size → ¬ gA g q → H1[q]? = H[q]?) : Fz g U H1 := by
  obtain ⟨⟨a1, a2⟩, ⟨b1, b2⟩, ⟨c1, c2⟩, -, -, -, -, f3, -⟩ := h
  refine ⟨⟨(a1.moved hvm).kept (hq _ (Nat.lt_of_lt_of_le a2 hN) (Nat.not_le.mpr a2)), a2⟩, ⟨(b1.moved hvm).kept hq, (b2.moved hvm).kept hq⟩, ⟨(c1.moved hvm).kept hq, (c2.moved hvm).kept hq⟩, trivial, trivial, trivial, trivial, fun z hz => hM _ _ _ _ (f3 z hz), trivial⟩
/-- what is known of a state -/
def Kn (g : GG) (U : State) : Prop := gN g ≤ U.heap.size ∧ va_K (gD g) vwCl (tysG g) U ∧ Fz g U U.heap ∧ (∀ m : PM, va_D (gA g) (cells g m)) ∧ (gl g).stackTraces = false
theorem Kn.to {g : GG} {s U : State} {H : Heap} {locs : List Loc} (h : Kn g s) (hS : va_S (gA g) s.heap H locs) (hU : U.heap = H) (hW : s.WarmedH U.vm) : Kn g U := by
  obtain ⟨h1, h2, h3, h4, h5⟩ := h
  subst hU
  exact ⟨Nat.le_trans h1 hS.1, h2.moved hW.alike, h3.to hW.alike (fun _ _ _ _ z => z.warmM hW) h1 hS.2.1, h4, h5⟩
theorem Kn.same {g : GG} {u U : State} (h : Kn g u) (hv : U.vm = u.vm) (hh : U.heap = u.heap) : Kn g U := by
  obtain ⟨h1, h2, h3, h4, h5⟩ := h
  refine ⟨by rw [hh]; exact h1, h2.moved (by rw [hv]; exact Vm.Alike.refl _), ?_, h4, h5⟩
  rw [hh]
  exact h3.to (by rw [hv]; exact Vm.Alike.refl _) (fun _ _ _ _ z => z.same rfl hv.symm) h1 (fun _ _ _ => rfl)
/-- what is known in a method of a class, at any time -/
def Fx (g : GG) (M : MD) (p : Program) (s : State) (mm : MethodId) (args : Array Value) (meth : Method) (cd : Code) : Prop :=
  p.tables.exec = Jvm.exec ∧ cd.code = M.2.1 ∧ cd.maxLocals = M.2.2.1 ∧ s.vm.findClass M.1 = some mm.cls ∧ (∀ w ∈ gTbl, w.before args s = true) ∧ Kn g s ∧ meth.sig.returnType = M.2.2.2.1 ∧ meth.locks = false ∧ cd.exceptionTable.toList = tableOf M.2.2.2.2
/-- a value that is an object of the world -/
def vOK (v : PV) : Prop := match v with
  | .inr (.inr (.inr z)) => z ∈ trip ++ rtrip
  | _ => True
def vAll : List PV → Prop
  | [] => True
  | v :: l => vOK v ∧ vAll l
def oAll : List (Option PV) → Prop
  | [] => True
  | some v :: l => vOK v ∧ oAll l
  | none :: l => oAll l
def lp (g : GG) : Nat → List (Option PV) → List (Nat × Value)
  | _, [] => []
  | i, none :: l => lp g (i + 1) l
  | i, some v :: l => (i, pv g v) :: lp g (i + 1) l
/-- where a method ends: at the instruction that returns, or where an exception is made -/
def Ends (g : GG) (M : MD) (o : Ou) (pc : Nat) (st : List Value) : Prop := match o with
  | .inl none => decode M.2.1 pc = .ok (.return_, 1) ∧ st = [] ∧ M.2.2.2.1 = none
  | .inl (some (.inl x)) => decode M.2.1 pc = .ok (.ireturn, 1) ∧ st = [.int x] ∧ ∃ rt, M.2.2.2.1 = some rt ∧ narrow rt (.int x) = .int x
  | .inl (some (.inr (.inl x))) => decode M.2.1 pc = .ok (.lreturn, 1) ∧ st = [.long x] ∧ M.2.2.2.1 = some .long
  | .inl (some (.inr (.inr (.inl x)))) => decode M.2.1 pc = .ok (.dreturn, 1) ∧ st = [.double x] ∧ M.2.2.2.1 = some .double
  | .inl (some (.inr (.inr (.inr z)))) => decode M.2.1 pc = .ok (.areturn, 1) ∧ st = [.ref (ga g z.1 z.2.1 z.2.2)] ∧ (∃ n, M.2.2.2.1 = some (.object n)) ∧ z ∈ trip ++ rtrip
  | .inr E => ∃ (ik is ic : Nat) (tx : String), M.1 = "TestSlots" ∧ decode M.2.1 pc = .ok (.new ik, 3) ∧ decode M.2.1 (pc + 3) = .ok (.dup, 1) ∧ decode M.2.1 (pc + 4) = .ok (.ldc is, 2) ∧ decode M.2.1 (pc + 6) = .ok (.invokespecial ic, 3) ∧ decode M.2.1 (pc + 9) = .ok (.athrow, 1) ∧ (is, tx) ∈ exT ∧ (E, ik, ic) ∈ [(1, 37, 41), (2, 94, 98), (3, 63, 67)] ∧ (st.map fun v => v.category).sum ≤ 8
/-- c and n: the cells and slots that are left of the method's room -/
def Wq (g : GG) (d : Nat) (M : MD) (c n pc : Nat) (ls : List (Option PV)) (st : List PV) (m : PM) (Q : Ou → PM → Nat → Nat → Prop) : Prop :=
  ∀ (p : Program) (e : Env) (R : Room) (s : State) (mm : MethodId) (args : Array Value) (below : List Frame) (meth : Method) (cd : Code) (H : Heap) (locs : List Loc) (L : Array Slot) (QQ : State → Prop),
    Fx g M p s mm args meth cd → d ≤ R.frames → 33 * d ≤ R.locals → c ≤ R.cells ∧ n ≤ R.slots → World g m H → lv_has L M.2.2.1 (lp g 0 ls) → vAll st → oAll ls → va_S (gA g) s.heap H locs →
    (∀ (o : Ou) (m' : PM) (c' n' pc' : Nat) (L' : Array Slot) (st' : List Value) (H' : Heap) (locs' : List Loc), Q o m' c' n' → World g m' H' → L'.size = M.2.2.1 → va_S (gA g) s.heap H' locs' → Ends g M o pc' st' → W p (gl g) e R s mm args below meth cd H' locs' (R.cells - c') (R.slots - n') QQ (F0 mm pc' L' st')) →
    W p (gl g) e R s mm args below meth cd H locs (R.cells - c) (R.slots - n) QQ (F0 mm pc L (st.map (pv g)))
/-- a method that makes no object on its way to its end -/
abbrev Wp (g : GG) (d : Nat) (M : MD) (pc : Nat) (ls : List (Option PV)) (st : List PV) (m : PM) (Q : Ou → PM → Prop) : Prop := Wq g d M 0 0 pc ls st m (fun o m' c n => c = 0 ∧ n = 0 ∧ Q o m')
/-- locals: reading and writing -/
theorem lp_in {g : GG} : ∀ (ls : List (Option PV)) (i k : Nat) (v : PV), ls[k]? = some (some v) → (i + k, pv g v) ∈ lp g i ls
  | [], _, _, _, h => by simp at h
  | none :: l, i, 0, v, h => by simp at h
  | some w :: l, i, 0, v, h => by
    simp at h
    subst h
    exact List.mem_cons_self
  | none :: l, i, k + 1, v, h => by
    have := lp_in (g := g) l (i + 1) k v (by simpa using h)
    rw [show i + (k + 1) = i + 1 + k by omega]
    exact this
  | some w :: l, i, k + 1, v, h => by
    have := lp_in (g := g) l (i + 1) k v (by simpa using h)
    rw [show i + (k + 1) = i + 1 + k by omega]
    exact List.mem_cons_of_mem _ this
theorem lp_of {g : GG} : ∀ (ls : List (Option PV)) (i : Nat) (q : Nat × Value), q ∈ lp g i ls → ∃ k v, ls[k]? = some (some v) ∧ q = (i + k, pv g v)
  | [], _, _, h => by cases h
  | none :: l, i, q, h => by
    obtain ⟨k, v, h1, h2⟩ := lp_of (g := g) l (i + 1) q h
    exact ⟨k + 1, v, by simpa using h1, by rw [h2, show i + (k + 1) = i + 1 + k by omega]⟩
  | some w :: l, i, q, h => by
    rcases List.mem_cons.mp h with h | h
    · exact ⟨0, w, rfl, h⟩
    · obtain ⟨k, v, h1, h2⟩ := lp_of (g := g) l (i + 1) q h
      exact ⟨k + 1, v, by simpa using h1, by rw [h2, show i + (k + 1) = i + 1 + k by omega]⟩
theorem lp_at {g : GG} {L : Array Slot} {nL : Nat} {ls : List (Option PV)} (h : lv_has L nL (lp g 0 ls)) {k : Nat} {v : PV} (hk : ls[k]? = some (some v)) : L[k]? = some (.val (pv g v)) := by
  have := h.2.2 _ (lp_in ls 0 k v hk)
  simpa using this
theorem oAll_at : ∀ {ls : List (Option PV)} {k : Nat} {v : PV}, oAll ls → ls[k]? = some (some v) → vOK v
  | some w :: l, 0, v, h, hk => by
    simp at hk
    subst hk
    exact h.1
  | some w :: l, k + 1, v, h, hk => oAll_at (ls := l) h.2 (by simpa using hk)
  | none :: l, k + 1, v, h, hk => oAll_at (ls := l) h (by simpa using hk)
def two : Option PV → Bool
  | some (.inr (.inl _)) => true
  | some (.inr (.inr (.inl _))) => true
  | _ => false
def psto1 : List (Option PV) → Nat → PV → List (Option PV)
  | [], _, _ => []
  | _ :: l, 0, v => some v :: l
  | o :: l, 1, v => (if two o then none else o) :: psto1 l 0 v
  | o :: l, n + 2, v => o :: psto1 l (n + 1) v
def psto2 : List (Option PV) → Nat → PV → List (Option PV)
  | [], _, _ => []
  | [_], 0, _ => []
  | _ :: _ :: l, 0, v => some v :: none :: l
  | o :: l, 1, v => (if two o then none else o) :: psto2 l 0 v
  | o :: l, n + 2, v => o :: psto2 l (n + 1) v
theorem two_cat {g : GG} {v : PV} (h : two (some v) = false) : (pv g v).category ≠ 2 := by
  rcases v with x | x | x | x
  · simp [pv, Value.category]
  · simp [two] at h
  · simp [two] at h
  · simp [pv, Value.category]
theorem psto1_of : ∀ (ls : List (Option PV)) (i : Nat) (v w : PV) (k : Nat), (psto1 ls i v)[k]? = some (some w) → (k = i ∧ w = v) ∨ (k ≠ i ∧ ls[k]? = some (some w) ∧ ¬ (k + 1 = i ∧ two (some w) = true))
  | [], _, _, _, _, h => by simp [psto1] at h
  | o :: l, 0, v, w, k, h => by
    rw [psto1] at h
    cases k with
    | zero => exact Or.inl ⟨rfl, by simpa using h.symm⟩
    | succ k => exact Or.inr ⟨by omega, by simpa using h, by omega⟩
  | o :: l, 1, v, w, k, h => by
    rw [psto1] at h
    cases k with
    | zero =>
      by_cases ho : two o = true
      · simp [ho] at h
      · simp [ho] at h
        exact Or.inr ⟨by omega, by simp [h], fun q => ho (by rw [h]; exact q.2)⟩
    | succ k =>
      rcases psto1_of l 0 v w k (by simpa using h) with ⟨a, b⟩ | ⟨a, b, c⟩
      · exact Or.inl ⟨by omega, b⟩
      · exact Or.inr ⟨by omega, by simpa using b, by omega⟩
  | o :: l, n + 2, v, w, k, h => by
    rw [psto1] at h
    cases k with
    | zero => exact Or.inr ⟨by omega, by simpa using h, by omega⟩
    | succ k =>
      rcases psto1_of l (n + 1) v w k (by simpa using h) with ⟨a, b⟩ | ⟨a, b, c⟩
      · exact Or.inl ⟨by omega, b⟩
      · exact Or.inr ⟨by omega, by simpa using b, fun q => c ⟨by omega, q.2⟩⟩
theorem psto2_of : ∀ (ls : List (Option PV)) (i : Nat) (v w : PV) (k : Nat), (psto2 ls i v)[k]? = some (some w) → (k = i ∧ w = v) ∨ (k ≠ i ∧ k ≠ i + 1 ∧ ls[k]? = some (some w) ∧ ¬ (k + 1 = i ∧ two (some w) = true))
  | [], _, _, _, _, h => by simp [psto2] at h
  | [o], 0, v, w, k, h => by simp [psto2] at h
  | o :: o2 :: l, 0, v, w, k, h => by
    rw [psto2] at h
    match k with
    | 0 => exact Or.inl ⟨rfl, by simpa using h.symm⟩
    | 1 => simp at h
    | k + 2 => exact Or.inr ⟨by omega, by omega, by simpa using h, by omega⟩
  | o :: l, 1, v, w, k, h => by
    rw [psto2] at h
    cases k with
    | zero =>
      by_cases ho : two o = true
      · simp [ho] at h
      · simp [ho] at h
        exact Or.inr ⟨by omega, by omega, by simp [h], fun q => ho (by rw [h]; exact q.2)⟩
    | succ k =>
      rcases psto2_of l 0 v w k (by simpa using h) with ⟨a, b⟩ | ⟨a, a2, b, c⟩
      · exact Or.inl ⟨by omega, b⟩
      · exact Or.inr ⟨by omega, by omega, by simpa using b, by omega⟩
  | o :: l, n + 2, v, w, k, h => by
    rw [psto2] at h
    cases k with
    | zero => exact Or.inr ⟨by omega, by omega, by simpa using h, by omega⟩
    | succ k =>
      rcases psto2_of l (n + 1) v w k (by simpa using h) with ⟨a, b⟩ | ⟨a, a2, b, c⟩
      · exact Or.inl ⟨by omega, b⟩
      · exact Or.inr ⟨by omega, by omega, by simpa using b, fun q => c ⟨by omega, q.2⟩⟩
theorem oAll_of : ∀ {ls : List (Option PV)}, (∀ (k : Nat) (v : PV), ls[k]? = some (some v) → vOK v) → oAll ls
  | [], _ => trivial
  | some w :: l, h => ⟨h 0 w rfl, oAll_of (fun k v hk => h (k + 1) v (by simpa using hk))⟩
  | none :: l, h => oAll_of (ls := l) (fun k v hk => h (k + 1) v (by simpa using hk))
theorem lp_sto1 {g : GG} {L' : Array Slot} {nL i : Nat} {v : PV} {ls : List (Option PV)} (h : lv_has L' nL ((i, pv g v) :: (lp g 0 ls).filter (fun q => !(q.1 == i) && !(q.1 + 1 == i && q.2.category == 2)))) : lv_has L' nL (lp g 0 (psto1 ls i v)) := by
  refine ⟨h.1, h.2.1, fun q hq => ?_⟩
  obtain ⟨k, w, h1, rfl⟩ := lp_of _ _ _ hq
  rcases psto1_of ls i v w k h1 with ⟨a, b⟩ | ⟨a, b, c⟩
  · subst a; subst b
    exact h.2.2 (0 + k, pv g w) (by rw [Nat.zero_add]; exact List.mem_cons_self)
  · refine h.2.2 _ (List.mem_cons_of_mem _ (List.mem_filter.mpr ⟨lp_in ls 0 k w b, ?_⟩))
    have hc : ¬ (k + 1 = i ∧ (pv g w).category = 2) := fun q => by
      cases ht : two (some w) with
      | true => exact c ⟨q.1, ht⟩
      | false => exact two_cat ht q.2
    simp [a]
    by_cases q : k + 1 = i
    · exact Or.inr (fun z => hc ⟨q, z⟩)
    · exact Or.inl q
theorem lp_sto2 {g : GG} {L' : Array Slot} {nL i : Nat} {v : PV} {ls : List (Option PV)} (h : lv_has L' nL ((i, pv g v) :: (lp g 0 ls).filter (fun q => !(q.1 == i) && (!(q.1 == i + 1) && !(q.1 + 1 == i && q.2.category == 2))))) : lv_has L' nL (lp g 0 (psto2 ls i v)) := by
  refine ⟨h.1, h.2.1, fun q hq => ?_⟩
  obtain ⟨k, w, h1, rfl⟩ := lp_of _ _ _ hq
  rcases psto2_of ls i v w k h1 with ⟨a, b⟩ | ⟨a, a2, b, c⟩
  · subst a; subst b
    exact h.2.2 (0 + k, pv g w) (by rw [Nat.zero_add]; exact List.mem_cons_self)
  · refine h.2.2 _ (List.mem_cons_of_mem _ (List.mem_filter.mpr ⟨lp_in ls 0 k w b, ?_⟩))
    have hc : ¬ (k + 1 = i ∧ (pv g w).category = 2) := fun q => by
      cases ht : two (some w) with
      | true => exact c ⟨q.1, ht⟩
      | false => exact two_cat ht q.2
    simp [a, a2]
    by_cases q : k + 1 = i
    · exact Or.inr (fun z => hc ⟨q, z⟩)
    · exact Or.inl q
theorem oAll_sto1 {ls : List (Option PV)} {i : Nat} {v : PV} (h : oAll ls) (hv : vOK v) : oAll (psto1 ls i v) := oAll_of fun k w hk => by
  rcases psto1_of ls i v w k hk with ⟨a, b⟩ | ⟨a, b, c⟩
  · rw [b]; exact hv
  · exact oAll_at h b
theorem oAll_sto2 {ls : List (Option PV)} {i : Nat} {v : PV} (h : oAll ls) (hv : vOK v) : oAll (psto2 ls i v) := oAll_of fun k w hk => by
  rcases psto2_of ls i v w k hk with ⟨a, b⟩ | ⟨a, a2, b, c⟩
  · rw [b]; exact hv
  · exact oAll_at h b
/-- fewer locals are known -/
def fewer : List (Option PV) → List (Option PV) → Prop
  | [], _ => True
  | none :: l, _ :: k => fewer l k
  | none :: l, [] => fewer l []
  | some v :: l, some w :: k => v = w ∧ fewer l k
  | some _ :: _, _ => False
theorem fewer_at : ∀ {l k : List (Option PV)} {i : Nat} {v : PV}, fewer l k → l[i]? = some (some v) → k[i]? = some (some v)
  | some a :: l, some b :: k, 0, v, h, hi => by
    simp at hi ⊢
    rw [← h.1, hi]
  | some a :: l, some b :: k, i + 1, v, h, hi => by
    have := fewer_at (l := l) (k := k) (i := i) h.2 (by simpa using hi)
    simpa using this
  | none :: l, b :: k, i + 1, v, h, hi => by
    have := fewer_at (l := l) (k := k) (i := i) h (by simpa using hi)
    simpa using this
  | none :: l, [], i + 1, v, h, hi => by
    have := fewer_at (l := l) (k := []) (i := i) h (by simpa using hi)
    simp at this
theorem Wq.few {g : GG} {d : Nat} {M : MD} {c n pc : Nat} {ls ls' : List (Option PV)} {st : List PV} {m : PM} {Q : Ou → PM → Nat → Nat → Prop} (h : fewer ls' ls) (q : Wq g d M c n pc ls' st m Q) : Wq g d M c n pc ls st m Q := by
  intro p e R s mm args below meth cd H locs L QQ F hf hl hr hw hL hst hls hS hk
  refine q p e R s mm args below meth cd H locs L QQ F hf hl hr hw ⟨hL.1, hL.2.1, fun z hz => ?_⟩ hst (oAll_of fun k v hv => oAll_at hls (fewer_at h hv)) hS hk
  obtain ⟨k, v, h1, rfl⟩ := lp_of _ _ _ hz
  exact hL.2.2 _ (lp_in ls 0 k v (fewer_at h h1))
theorem Wq.mono {g : GG} {d : Nat} {M : MD} {c n pc : Nat} {ls : List (Option PV)} {st : List PV} {m : PM} {Q Q' : Ou → PM → Nat → Nat → Prop} (q : Wq g d M c n pc ls st m Q) (h : ∀ o m' c' n', Q o m' c' n' → Q' o m' c' n') : Wq g d M c n pc ls st m Q' := by
  intro p e R s mm args below meth cd H locs L QQ F hf hl hr hw hL hst hls hS hk
  exact q p e R s mm args below meth cd H locs L QQ F hf hl hr hw hL hst hls hS (fun o m' c' n' pc' L' st' H' locs' hQ => hk o m' c' n' pc' L' st' H' locs' (h _ _ _ _ hQ))
end
section
theorem one_cat {g : GG} {v : PV} (h : two (some v) = false) : (pv g v).category = 1 := by
  rcases v with x | x | x | x
  · rfl
  · simp [two] at h
  · simp [two] at h
  · rfl
/-! THE RULES: an instruction, a rule -/
section RL
variable {g : GG} {d : Nat} {M : MD} {c n pc : Nat} {ls : List (Option PV)} {st : List PV} {m : PM} {Q : Ou → PM → Nat → Nat → Prop}
theorem Wq.iadd {x y : Int32} (hd : decode M.2.1 pc = .ok (.iadd, 1))  (q : Wq g d M c n (pc + 1) ls (pI (x + y) :: st) m Q) : Wq g d M c n pc ls (pI y :: pI x :: st) m Q := by
  intro p e R s mm args below meth cd H locs L QQ F hf hl hr hw hL hst hls hS hk
  refine lv_iadd F.1 F.2.1 hd ?_
  exact q p e R s mm args below meth cd H locs L QQ F hf hl hr hw hL ⟨trivial, hst.2.2⟩ hls hS hk
theorem Wq.isub {x y : Int32} (hd : decode M.2.1 pc = .ok (.isub, 1))  (q : Wq g d M c n (pc + 1) ls (pI (x - y) :: st) m Q) : Wq g d M c n pc ls (pI y :: pI x :: st) m Q := by
  intro p e R s mm args below meth cd H locs L QQ F hf hl hr hw hL hst hls hS hk
  refine lv_isub F.1 F.2.1 hd ?_
  exact q p e R s mm args below meth cd H locs L QQ F hf hl hr hw hL ⟨trivial, hst.2.2⟩ hls hS hk
theorem Wq.imul {x y : Int32} (hd : decode M.2.1 pc = .ok (.imul, 1))  (q : Wq g d M c n (pc + 1) ls (pI (x * y) :: st) m Q) : Wq g d M c n pc ls (pI y :: pI x :: st) m Q := by
  intro p e R s mm args below meth cd H locs L QQ F hf hl hr hw hL hst hls hS hk
  refine lv_imul F.1 F.2.1 hd ?_
  exact q p e R s mm args below meth cd H locs L QQ F hf hl hr hw hL ⟨trivial, hst.2.2⟩ hls hS hk
theorem Wq.iand {x y : Int32} (hd : decode M.2.1 pc = .ok (.iand, 1))  (q : Wq g d M c n (pc + 1) ls (pI (x &&& y) :: st) m Q) : Wq g d M c n pc ls (pI y :: pI x :: st) m Q := by
  intro p e R s mm args below meth cd H locs L QQ F hf hl hr hw hL hst hls hS hk
  refine lv_iand F.1 F.2.1 hd ?_
  exact q p e R s mm args below meth cd H locs L QQ F hf hl hr hw hL ⟨trivial, hst.2.2⟩ hls hS hk
theorem Wq.ishr {x y : Int32} (hd : decode M.2.1 pc = .ok (.ishr, 1))  (q : Wq g d M c n (pc + 1) ls (pI (x >>> (y &&& 31)) :: st) m Q) : Wq g d M c n pc ls (pI y :: pI x :: st) m Q := by
  intro p e R s mm args below meth cd H locs L QQ F hf hl hr hw hL hst hls hS hk
  refine lv_ishr F.1 F.2.1 hd ?_
  exact q p e R s mm args below meth cd H locs L QQ F hf hl hr hw hL ⟨trivial, hst.2.2⟩ hls hS hk
theorem Wq.idiv {x y : Int32} (hd : decode M.2.1 pc = .ok (.idiv, 1)) (hy : ¬ y = 0) (q : Wq g d M c n (pc + 1) ls (pI (x / y) :: st) m Q) : Wq g d M c n pc ls (pI y :: pI x :: st) m Q := by
  intro p e R s mm args below meth cd H locs L QQ F hf hl hr hw hL hst hls hS hk
  refine lv_idiv F.1 F.2.1 hd hy ?_
  exact q p e R s mm args below meth cd H locs L QQ F hf hl hr hw hL ⟨trivial, hst.2.2⟩ hls hS hk
theorem Wq.irem {x y : Int32} (hd : decode M.2.1 pc = .ok (.irem, 1)) (hy : ¬ y = 0) (q : Wq g d M c n (pc + 1) ls (pI (x - x / y * y) :: st) m Q) : Wq g d M c n pc ls (pI y :: pI x :: st) m Q := by
  intro p e R s mm args below meth cd H locs L QQ F hf hl hr hw hL hst hls hS hk
  refine lv_irem F.1 F.2.1 hd hy ?_
  exact q p e R s mm args below meth cd H locs L QQ F hf hl hr hw hL ⟨trivial, hst.2.2⟩ hls hS hk
theorem Wq.ladd {x y : Int64} (hd : decode M.2.1 pc = .ok (.ladd, 1))  (q : Wq g d M c n (pc + 1) ls (pL (x + y) :: st) m Q) : Wq g d M c n pc ls (pL y :: pL x :: st) m Q := by
  intro p e R s mm args below meth cd H locs L QQ F hf hl hr hw hL hst hls hS hk
  refine lv_ladd F.1 F.2.1 hd ?_
  exact q p e R s mm args below meth cd H locs L QQ F hf hl hr hw hL ⟨trivial, hst.2.2⟩ hls hS hk
theorem Wq.lsub {x y : Int64} (hd : decode M.2.1 pc = .ok (.lsub, 1))  (q : Wq g d M c n (pc + 1) ls (pL (x - y) :: st) m Q) : Wq g d M c n pc ls (pL y :: pL x :: st) m Q := by
  intro p e R s mm args below meth cd H locs L QQ F hf hl hr hw hL hst hls hS hk
  refine lv_lsub F.1 F.2.1 hd ?_
  exact q p e R s mm args below meth cd H locs L QQ F hf hl hr hw hL ⟨trivial, hst.2.2⟩ hls hS hk
theorem Wq.lmul {x y : Int64} (hd : decode M.2.1 pc = .ok (.lmul, 1))  (q : Wq g d M c n (pc + 1) ls (pL (x * y) :: st) m Q) : Wq g d M c n pc ls (pL y :: pL x :: st) m Q := by
  intro p e R s mm args below meth cd H locs L QQ F hf hl hr hw hL hst hls hS hk
  refine lv_lmul F.1 F.2.1 hd ?_
  exact q p e R s mm args below meth cd H locs L QQ F hf hl hr hw hL ⟨trivial, hst.2.2⟩ hls hS hk
theorem Wq.dsub {x y : UInt64} (hd : decode M.2.1 pc = .ok (.dsub, 1)) (hn : vf_n64 (FP.dsub x y)) (q : Wq g d M c n (pc + 1) ls (pD (FP.dsub x y) :: st) m Q) : Wq g d M c n pc ls (pD y :: pD x :: st) m Q := by
  intro p e R s mm args below meth cd H locs L QQ F hf hl hr hw hL hst hls hS hk
  refine lv_dsub F.1 F.2.1 hd hn ?_
  exact q p e R s mm args below meth cd H locs L QQ F hf hl hr hw hL ⟨trivial, hst.2.2⟩ hls hS hk
theorem Wq.dmul {x y : UInt64} (hd : decode M.2.1 pc = .ok (.dmul, 1)) (hn : vf_n64 (FP.dmul x y)) (q : Wq g d M c n (pc + 1) ls (pD (FP.dmul x y) :: st) m Q) : Wq g d M c n pc ls (pD y :: pD x :: st) m Q := by
  intro p e R s mm args below meth cd H locs L QQ F hf hl hr hw hL hst hls hS hk
  refine lv_dmul F.1 F.2.1 hd hn ?_
  exact q p e R s mm args below meth cd H locs L QQ F hf hl hr hw hL ⟨trivial, hst.2.2⟩ hls hS hk
theorem Wq.ddiv {x y : UInt64} (hd : decode M.2.1 pc = .ok (.ddiv, 1)) (hn : vf_n64 (FP.ddiv x y)) (q : Wq g d M c n (pc + 1) ls (pD (FP.ddiv x y) :: st) m Q) : Wq g d M c n pc ls (pD y :: pD x :: st) m Q := by
  intro p e R s mm args below meth cd H locs L QQ F hf hl hr hw hL hst hls hS hk
  refine lv_ddiv F.1 F.2.1 hd hn ?_
  exact q p e R s mm args below meth cd H locs L QQ F hf hl hr hw hL ⟨trivial, hst.2.2⟩ hls hS hk
theorem Wq.dcmp {x y : UInt64} {op : CmpOp} (hd : decode M.2.1 pc = .ok (.dcmp op, 1))  (q : Wq g d M c n (pc + 1) ls (pI (Op.cmpValue (FP.dcmp x y) op) :: st) m Q) : Wq g d M c n pc ls (pD y :: pD x :: st) m Q := by
  intro p e R s mm args below meth cd H locs L QQ F hf hl hr hw hL hst hls hS hk
  refine lv_dcmp F.1 F.2.1 hd ?_
  exact q p e R s mm args below meth cd H locs L QQ F hf hl hr hw hL ⟨trivial, hst.2.2⟩ hls hS hk
theorem Wq.lcmp {x y : Int64} (hd : decode M.2.1 pc = .ok (.lcmp, 1))  (q : Wq g d M c n (pc + 1) ls (pI (lg_cmp x y) :: st) m Q) : Wq g d M c n pc ls (pL y :: pL x :: st) m Q := by
  intro p e R s mm args below meth cd H locs L QQ F hf hl hr hw hL hst hls hS hk
  refine W.lcmp F.1 F.2.1 hd ?_
  exact q p e R s mm args below meth cd H locs L QQ F hf hl hr hw hL ⟨trivial, hst.2.2⟩ hls hS hk
theorem Wq.lshl {x : Int64} {y : Int32} (hd : decode M.2.1 pc = .ok (.lshl, 1))  (q : Wq g d M c n (pc + 1) ls (pL (x <<< (y.toInt64 &&& 63)) :: st) m Q) : Wq g d M c n pc ls (pI y :: pL x :: st) m Q := by
  intro p e R s mm args below meth cd H locs L QQ F hf hl hr hw hL hst hls hS hk
  refine lv_lshl F.1 F.2.1 hd rfl ?_
  exact q p e R s mm args below meth cd H locs L QQ F hf hl hr hw hL ⟨trivial, hst.2.2⟩ hls hS hk
theorem Wq.i2l {x : Int32} (hd : decode M.2.1 pc = .ok (.i2l, 1))  (q : Wq g d M c n (pc + 1) ls (pL x.toInt64 :: st) m Q) : Wq g d M c n pc ls (pI x :: st) m Q := by
  intro p e R s mm args below meth cd H locs L QQ F hf hl hr hw hL hst hls hS hk
  refine lv_i2l F.1 F.2.1 hd rfl ?_
  exact q p e R s mm args below meth cd H locs L QQ F hf hl hr hw hL ⟨trivial, hst.2⟩ hls hS hk
theorem Wq.i2d {x : Int32} (hd : decode M.2.1 pc = .ok (.i2d, 1))  (q : Wq g d M c n (pc + 1) ls (pD (FP.i2d x) :: st) m Q) : Wq g d M c n pc ls (pI x :: st) m Q := by
  intro p e R s mm args below meth cd H locs L QQ F hf hl hr hw hL hst hls hS hk
  refine lv_i2d F.1 F.2.1 hd ?_
  exact q p e R s mm args below meth cd H locs L QQ F hf hl hr hw hL ⟨trivial, hst.2⟩ hls hS hk
theorem Wq.d2l {x : UInt64} (hd : decode M.2.1 pc = .ok (.d2l, 1))  (q : Wq g d M c n (pc + 1) ls (pL (FP.d2l x) :: st) m Q) : Wq g d M c n pc ls (pD x :: st) m Q := by
  intro p e R s mm args below meth cd H locs L QQ F hf hl hr hw hL hst hls hS hk
  refine lv_d2l F.1 F.2.1 hd ?_
  exact q p e R s mm args below meth cd H locs L QQ F hf hl hr hw hL ⟨trivial, hst.2⟩ hls hS hk
theorem Wq.i2c {x : Int32} (hd : decode M.2.1 pc = .ok (.i2c, 1))  (q : Wq g d M c n (pc + 1) ls (pI (x.toUInt32 % 65536).toInt32 :: st) m Q) : Wq g d M c n pc ls (pI x :: st) m Q := by
  intro p e R s mm args below meth cd H locs L QQ F hf hl hr hw hL hst hls hS hk
  refine lv_i2c F.1 F.2.1 hd rfl ?_
  exact q p e R s mm args below meth cd H locs L QQ F hf hl hr hw hL ⟨trivial, hst.2⟩ hls hS hk
theorem Wq.lconst {k : Fin 2} {v : Int64} (hd : decode M.2.1 pc = .ok (.lconst k, 1)) (hv : Int64.ofNat (k : Nat) = v) (q : Wq g d M c n (pc + 1) ls (pL v :: st) m Q) : Wq g d M c n pc ls st m Q := by
  intro p e R s mm args below meth cd H locs L QQ F hf hl hr hw hL hst hls hS hk
  refine lv_lconst F.1 F.2.1 hd hv ?_
  exact q p e R s mm args below meth cd H locs L QQ F hf hl hr hw hL ⟨trivial, hst⟩ hls hS hk
theorem Wq.iconst {k : Int} {v : Int32} (hd : decode M.2.1 pc = .ok (.iconst k, 1)) (hv : Int32.ofInt k = v) (q : Wq g d M c n (pc + 1) ls (pI v :: st) m Q) : Wq g d M c n pc ls st m Q := by
  intro p e R s mm args below meth cd H locs L QQ F hf hl hr hw hL hst hls hS hk
  refine lv_iconst F.1 F.2.1 hd hv ?_
  exact q p e R s mm args below meth cd H locs L QQ F hf hl hr hw hL ⟨trivial, hst⟩ hls hS hk
theorem Wq.bipush {k : Int} {v : Int32} (hd : decode M.2.1 pc = .ok (.bipush k, 2)) (hv : (Int8.ofInt k).toInt32 = v) (q : Wq g d M c n (pc + 2) ls (pI v :: st) m Q) : Wq g d M c n pc ls st m Q := by
  intro p e R s mm args below meth cd H locs L QQ F hf hl hr hw hL hst hls hS hk
  refine lv_bipush F.1 F.2.1 hd hv ?_
  exact q p e R s mm args below meth cd H locs L QQ F hf hl hr hw hL ⟨trivial, hst⟩ hls hS hk
theorem Wq.sipush {k : Int} {v : Int32} (hd : decode M.2.1 pc = .ok (.sipush k, 3)) (hv : (Int16.ofInt k).toInt32 = v) (q : Wq g d M c n (pc + 3) ls (pI v :: st) m Q) : Wq g d M c n pc ls st m Q := by
  intro p e R s mm args below meth cd H locs L QQ F hf hl hr hw hL hst hls hS hk
  refine lv_sipush F.1 F.2.1 hd hv ?_
  exact q p e R s mm args below meth cd H locs L QQ F hf hl hr hw hL ⟨trivial, hst⟩ hls hS hk
theorem Wq.ldc {k : Nat} {v : Int32} (hd : decode M.2.1 pc = .ok (.ldc k, 2)) (hw0 : Cond.constant M.1 k v ∈ gTbl) (q : Wq g d M c n (pc + 2) ls (pI v :: st) m Q) : Wq g d M c n pc ls st m Q := by
  intro p e R s mm args below meth cd H locs L QQ F hf hl hr hw hL hst hls hS hk
  refine lv_ldc F.1 F.2.1 F.2.2.2.1 (F.2.2.2.2.1 _ hw0) hd ?_
  exact q p e R s mm args below meth cd H locs L QQ F hf hl hr hw hL ⟨trivial, hst⟩ hls hS hk
theorem Wq.ldc2 {k : Nat} {v : Int64} (hd : decode M.2.1 pc = .ok (.ldc2_w k, 3)) (hw0 : Cond.constantLong M.1 k v ∈ gTbl) (q : Wq g d M c n (pc + 3) ls (pL v :: st) m Q) : Wq g d M c n pc ls st m Q := by
  intro p e R s mm args below meth cd H locs L QQ F hf hl hr hw hL hst hls hS hk
  refine lv_ldc2 F.1 F.2.1 F.2.2.2.1 (F.2.2.2.2.1 _ hw0) hd ?_
  exact q p e R s mm args below meth cd H locs L QQ F hf hl hr hw hL ⟨trivial, hst⟩ hls hS hk
theorem Wq.ldc2d {k : Nat} {v : UInt64} (hd : decode M.2.1 pc = .ok (.ldc2_w k, 3)) (hw0 : Cond.constantDouble M.1 k v ∈ gTbl) (q : Wq g d M c n (pc + 3) ls (pD v :: st) m Q) : Wq g d M c n pc ls st m Q := by
  intro p e R s mm args below meth cd H locs L QQ F hf hl hr hw hL hst hls hS hk
  refine lv_ldc2d F.1 F.2.1 F.2.2.2.1 (F.2.2.2.2.1 _ hw0) hd ?_
  exact q p e R s mm args below meth cd H locs L QQ F hf hl hr hw hL ⟨trivial, hst⟩ hls hS hk
theorem Wq.dup {v : PV} (hd : decode M.2.1 pc = .ok (.dup, 1)) (hv : two (some v) = false) (q : Wq g d M c n (pc + 1) ls (v :: v :: st) m Q) : Wq g d M c n pc ls (v :: st) m Q := by
  intro p e R s mm args below meth cd H locs L QQ F hf hl hr hw hL hst hls hS hk
  refine lv_dup F.1 F.2.1 hd (one_cat hv) ?_
  exact q p e R s mm args below meth cd H locs L QQ F hf hl hr hw hL ⟨hst.1, hst⟩ hls hS hk
theorem Wq.pop {v : PV} (hd : decode M.2.1 pc = .ok (.pop, 1)) (hv : two (some v) = false) (q : Wq g d M c n (pc + 1) ls st m Q) : Wq g d M c n pc ls (v :: st) m Q := by
  intro p e R s mm args below meth cd H locs L QQ F hf hl hr hw hL hst hls hS hk
  refine lv_pop F.1 F.2.1 hd (one_cat hv) ?_
  exact q p e R s mm args below meth cd H locs L QQ F hf hl hr hw hL hst.2 hls hS hk
theorem Wq.dup2 {v w : PV} (hd : decode M.2.1 pc = .ok (.dup2, 1)) (hv : two (some v) = false) (hv2 : two (some w) = false) (q : Wq g d M c n (pc + 1) ls (v :: w :: v :: w :: st) m Q) : Wq g d M c n pc ls (v :: w :: st) m Q := by
  intro p e R s mm args below meth cd H locs L QQ F hf hl hr hw hL hst hls hS hk
  refine lv_dup2_11 F.1 F.2.1 hd (one_cat hv) (one_cat hv2) ?_
  exact q p e R s mm args below meth cd H locs L QQ F hf hl hr hw hL ⟨hst.1, hst.2.1, hst⟩ hls hS hk
theorem Wq.goto {off : Int} {tgt : Nat} (hd : decode M.2.1 pc = .ok (.goto off, 3)) (ht : (pc : Int) + off = (tgt : Int)) (q : Wq g d M c n tgt ls st m Q) : Wq g d M c n pc ls st m Q := by
  intro p e R s mm args below meth cd H locs L QQ F hf hl hr hw hL hst hls hS hk
  refine lv_goto F.1 F.2.1 hd ht ?_
  exact q p e R s mm args below meth cd H locs L QQ F hf hl hr hw hL hst hls hS hk
theorem Wq.dconst0  (hd : decode M.2.1 pc = .ok (.dconst 0, 1))  (q : Wq g d M c n (pc + 1) ls (pD FP.dconst0 :: st) m Q) : Wq g d M c n pc ls st m Q := by
  intro p e R s mm args below meth cd H locs L QQ F hf hl hr hw hL hst hls hS hk
  refine lv_dconst0 F.1 F.2.1 hd ?_
  exact q p e R s mm args below meth cd H locs L QQ F hf hl hr hw hL ⟨trivial, hst⟩ hls hS hk
theorem Wq.dconst1  (hd : decode M.2.1 pc = .ok (.dconst 1, 1))  (q : Wq g d M c n (pc + 1) ls (pD FP.dconst1 :: st) m Q) : Wq g d M c n pc ls st m Q := by
  intro p e R s mm args below meth cd H locs L QQ F hf hl hr hw hL hst hls hS hk
  refine lv_dconst1 F.1 F.2.1 hd ?_
  exact q p e R s mm args below meth cd H locs L QQ F hf hl hr hw hL ⟨trivial, hst⟩ hls hS hk
theorem Wq.iload_n {k : Fin 4} {x : Int32} (hd : decode M.2.1 pc = .ok (.iload_n k, 1)) (hx : ls[(k : Nat)]? = some (some (pI x))) (q : Wq g d M c n (pc + 1) ls (pI x :: st) m Q) : Wq g d M c n pc ls st m Q := by
  intro p e R s mm args below meth cd H locs L QQ F hf hl hr hw hL hst hls hS hk
  refine lv_iload_n F.1 F.2.1 hd rfl (lp_at hL hx) ?_
  exact q p e R s mm args below meth cd H locs L QQ F hf hl hr hw hL ⟨trivial, hst⟩ hls hS hk
theorem Wq.iload {k : Nat} {x : Int32} (hd : decode M.2.1 pc = .ok (.iload k, 2)) (hx : ls[k]? = some (some (pI x))) (q : Wq g d M c n (pc + 2) ls (pI x :: st) m Q) : Wq g d M c n pc ls st m Q := by
  intro p e R s mm args below meth cd H locs L QQ F hf hl hr hw hL hst hls hS hk
  refine lv_iload F.1 F.2.1 hd (lp_at hL hx) ?_
  exact q p e R s mm args below meth cd H locs L QQ F hf hl hr hw hL ⟨trivial, hst⟩ hls hS hk
theorem Wq.lload_n {k : Fin 4} {x : Int64} (hd : decode M.2.1 pc = .ok (.lload_n k, 1)) (hx : ls[(k : Nat)]? = some (some (pL x))) (q : Wq g d M c n (pc + 1) ls (pL x :: st) m Q) : Wq g d M c n pc ls st m Q := by
  intro p e R s mm args below meth cd H locs L QQ F hf hl hr hw hL hst hls hS hk
  refine lv_lload_n F.1 F.2.1 hd rfl (lp_at hL hx) ?_
  exact q p e R s mm args below meth cd H locs L QQ F hf hl hr hw hL ⟨trivial, hst⟩ hls hS hk
theorem Wq.lload {k : Nat} {x : Int64} (hd : decode M.2.1 pc = .ok (.lload k, 2)) (hx : ls[k]? = some (some (pL x))) (q : Wq g d M c n (pc + 2) ls (pL x :: st) m Q) : Wq g d M c n pc ls st m Q := by
  intro p e R s mm args below meth cd H locs L QQ F hf hl hr hw hL hst hls hS hk
  refine lv_lload F.1 F.2.1 hd (lp_at hL hx) ?_
  exact q p e R s mm args below meth cd H locs L QQ F hf hl hr hw hL ⟨trivial, hst⟩ hls hS hk
theorem Wq.dload_n {k : Fin 4} {x : UInt64} (hd : decode M.2.1 pc = .ok (.dload_n k, 1)) (hx : ls[(k : Nat)]? = some (some (pD x))) (q : Wq g d M c n (pc + 1) ls (pD x :: st) m Q) : Wq g d M c n pc ls st m Q := by
  intro p e R s mm args below meth cd H locs L QQ F hf hl hr hw hL hst hls hS hk
  refine lv_dload_n F.1 F.2.1 hd rfl (lp_at hL hx) ?_
  exact q p e R s mm args below meth cd H locs L QQ F hf hl hr hw hL ⟨trivial, hst⟩ hls hS hk
theorem Wq.dload {k : Nat} {x : UInt64} (hd : decode M.2.1 pc = .ok (.dload k, 2)) (hx : ls[k]? = some (some (pD x))) (q : Wq g d M c n (pc + 2) ls (pD x :: st) m Q) : Wq g d M c n pc ls st m Q := by
  intro p e R s mm args below meth cd H locs L QQ F hf hl hr hw hL hst hls hS hk
  refine lv_dload F.1 F.2.1 hd (lp_at hL hx) ?_
  exact q p e R s mm args below meth cd H locs L QQ F hf hl hr hw hL ⟨trivial, hst⟩ hls hS hk
theorem Wq.aload_n {k : Fin 4} {t r j : Nat} (hd : decode M.2.1 pc = .ok (.aload_n k, 1)) (hx : ls[(k : Nat)]? = some (some (pO t r j))) (q : Wq g d M c n (pc + 1) ls (pO t r j :: st) m Q) : Wq g d M c n pc ls st m Q := by
  intro p e R s mm args below meth cd H locs L QQ F hf hl hr hw hL hst hls hS hk
  refine lv_aload_n F.1 F.2.1 hd rfl (lp_at hL hx) ?_
  exact q p e R s mm args below meth cd H locs L QQ F hf hl hr hw hL ⟨oAll_at hls hx, hst⟩ hls hS hk
theorem Wq.aload {k : Nat} {t r j : Nat} (hd : decode M.2.1 pc = .ok (.aload k, 2)) (hx : ls[k]? = some (some (pO t r j))) (q : Wq g d M c n (pc + 2) ls (pO t r j :: st) m Q) : Wq g d M c n pc ls st m Q := by
  intro p e R s mm args below meth cd H locs L QQ F hf hl hr hw hL hst hls hS hk
  refine lv_aload F.1 F.2.1 hd (lp_at hL hx) ?_
  exact q p e R s mm args below meth cd H locs L QQ F hf hl hr hw hL ⟨oAll_at hls hx, hst⟩ hls hS hk
theorem Wq.istore_n {k : Fin 4} {x : Int32} {ls2 : List (Option PV)} (hd : decode M.2.1 pc = .ok (.istore_n k, 1)) (hn : (k : Nat) < M.2.2.1) (hs : psto1 ls k (pI x) = ls2) (q : Wq g d M c n (pc + 1) ls2 st m Q) : Wq g d M c n pc ls (pI x :: st) m Q := by
  subst hs
  intro p e R s mm args below meth cd H locs L QQ F hf hl hr hw hL hst hls hS hk
  refine lv_istore_n F.1 F.2.1 hd rfl hL hn rfl (fun L2 hL2 => ?_)
  exact q p e R s mm args below meth cd H locs L2 QQ F hf hl hr hw (lp_sto1 hL2) hst.2 (oAll_sto1 hls trivial) hS hk
theorem Wq.istore {k : Nat} {x : Int32} {ls2 : List (Option PV)} (hd : decode M.2.1 pc = .ok (.istore k, 2)) (hn : (k : Nat) < M.2.2.1) (hs : psto1 ls k (pI x) = ls2) (q : Wq g d M c n (pc + 2) ls2 st m Q) : Wq g d M c n pc ls (pI x :: st) m Q := by
  subst hs
  intro p e R s mm args below meth cd H locs L QQ F hf hl hr hw hL hst hls hS hk
  refine lv_istore F.1 F.2.1 hd hL hn rfl (fun L2 hL2 => ?_)
  exact q p e R s mm args below meth cd H locs L2 QQ F hf hl hr hw (lp_sto1 hL2) hst.2 (oAll_sto1 hls trivial) hS hk
theorem Wq.lstore_n {k : Fin 4} {x : Int64} {ls2 : List (Option PV)} (hd : decode M.2.1 pc = .ok (.lstore_n k, 1)) (hn : (k : Nat) + 1 < M.2.2.1) (hs : psto2 ls k (pL x) = ls2) (q : Wq g d M c n (pc + 1) ls2 st m Q) : Wq g d M c n pc ls (pL x :: st) m Q := by
  subst hs
  intro p e R s mm args below meth cd H locs L QQ F hf hl hr hw hL hst hls hS hk
  refine lv_lstore_n F.1 F.2.1 hd rfl hL hn rfl (fun L2 hL2 => ?_)
  exact q p e R s mm args below meth cd H locs L2 QQ F hf hl hr hw (lp_sto2 hL2) hst.2 (oAll_sto2 hls trivial) hS hk
theorem Wq.lstore {k : Nat} {x : Int64} {ls2 : List (Option PV)} (hd : decode M.2.1 pc = .ok (.lstore k, 2)) (hn : k + 1 < M.2.2.1) (hs : psto2 ls k (pL x) = ls2) (q : Wq g d M c n (pc + 2) ls2 st m Q) : Wq g d M c n pc ls (pL x :: st) m Q := by
  subst hs
  intro p e R s mm args below meth cd H locs L QQ F hf hl hr hw hL hst hls hS hk
  refine lv_lstore F.1 F.2.1 hd hL hn rfl (fun L2 hL2 => ?_)
  exact q p e R s mm args below meth cd H locs L2 QQ F hf hl hr hw (lp_sto2 hL2) hst.2 (oAll_sto2 hls trivial) hS hk
theorem Wq.dstore_n {k : Fin 4} {x : UInt64} {ls2 : List (Option PV)} (hd : decode M.2.1 pc = .ok (.dstore_n k, 1)) (hn : (k : Nat) + 1 < M.2.2.1) (hs : psto2 ls k (pD x) = ls2) (q : Wq g d M c n (pc + 1) ls2 st m Q) : Wq g d M c n pc ls (pD x :: st) m Q := by
  subst hs
  intro p e R s mm args below meth cd H locs L QQ F hf hl hr hw hL hst hls hS hk
  refine lv_dstore_n F.1 F.2.1 hd rfl hL hn rfl (fun L2 hL2 => ?_)
  exact q p e R s mm args below meth cd H locs L2 QQ F hf hl hr hw (lp_sto2 hL2) hst.2 (oAll_sto2 hls trivial) hS hk
theorem Wq.dstore {k : Nat} {x : UInt64} {ls2 : List (Option PV)} (hd : decode M.2.1 pc = .ok (.dstore k, 2)) (hn : k + 1 < M.2.2.1) (hs : psto2 ls k (pD x) = ls2) (q : Wq g d M c n (pc + 2) ls2 st m Q) : Wq g d M c n pc ls (pD x :: st) m Q := by
  subst hs
  intro p e R s mm args below meth cd H locs L QQ F hf hl hr hw hL hst hls hS hk
  refine lv_dstore F.1 F.2.1 hd hL hn rfl (fun L2 hL2 => ?_)
  exact q p e R s mm args below meth cd H locs L2 QQ F hf hl hr hw (lp_sto2 hL2) hst.2 (oAll_sto2 hls trivial) hS hk
theorem Wq.astore_n {k : Fin 4} {t r j : Nat} {ls2 : List (Option PV)} (hd : decode M.2.1 pc = .ok (.astore_n k, 1)) (hn : (k : Nat) < M.2.2.1) (hs : psto1 ls k (pO t r j) = ls2) (q : Wq g d M c n (pc + 1) ls2 st m Q) : Wq g d M c n pc ls (pO t r j :: st) m Q := by
  subst hs
  intro p e R s mm args below meth cd H locs L QQ F hf hl hr hw hL hst hls hS hk
  refine lv_astore_n F.1 F.2.1 hd rfl hL hn rfl (fun L2 hL2 => ?_)
  exact q p e R s mm args below meth cd H locs L2 QQ F hf hl hr hw (lp_sto1 hL2) hst.2 (oAll_sto1 hls hst.1) hS hk
theorem Wq.astore {k : Nat} {t r j : Nat} {ls2 : List (Option PV)} (hd : decode M.2.1 pc = .ok (.astore k, 2)) (hn : (k : Nat) < M.2.2.1) (hs : psto1 ls k (pO t r j) = ls2) (q : Wq g d M c n (pc + 2) ls2 st m Q) : Wq g d M c n pc ls (pO t r j :: st) m Q := by
  subst hs
  intro p e R s mm args below meth cd H locs L QQ F hf hl hr hw hL hst hls hS hk
  refine lv_astore F.1 F.2.1 hd hL hn rfl (fun L2 hL2 => ?_)
  exact q p e R s mm args below meth cd H locs L2 QQ F hf hl hr hw (lp_sto1 hL2) hst.2 (oAll_sto1 hls hst.1) hS hk
theorem lp_find {g : GG} {ls : List (Option PV)} {k : Nat} {v : PV} (h : ls[k]? = some (some v)) : ∃ j : Nat, (lp g 0 ls)[j]? = some (k, pv g v) := by
  have := lp_in (g := g) ls 0 k v h
  rw [Nat.zero_add] at this
  exact List.getElem?_of_mem this
theorem Wq.iinc {k : Nat} {a : Int} {x : Int32} {ls2 : List (Option PV)} (hd : decode M.2.1 pc = .ok (.iinc k a, 3)) (hx : ls[k]? = some (some (pI x))) (hn : k < M.2.2.1) (hs : psto1 ls k (pI (x + Int32.ofInt a)) = ls2) (q : Wq g d M c n (pc + 3) ls2 st m Q) : Wq g d M c n pc ls st m Q := by
  subst hs
  intro p e R s mm args below meth cd H locs L QQ F hf hl hr hw hL hst hls hS hk
  obtain ⟨j, hj⟩ := lp_find (g := g) hx
  refine lv_iinc F.1 F.2.1 hd hL hj rfl hn rfl (fun L2 hL2 => ?_)
  exact q p e R s mm args below meth cd H locs L2 QQ F hf hl hr hw (lp_sto1 hL2) hst (oAll_sto1 hls trivial) hS hk
theorem Wq.ifeq {x : Int32} {off : Int} {tgt : Nat} (hd : decode M.2.1 pc = .ok (.ifCond .eq off, 3)) (ht : (pc : Int) + off = (tgt : Int)) (q1 : x = 0 → Wq g d M c n tgt ls st m Q) (q2 : ¬ x = 0 → Wq g d M c n (pc + 3) ls st m Q) : Wq g d M c n pc ls (pI x :: st) m Q := by
  intro p e R s mm args below meth cd H locs L QQ F hf hl hr hw hL hst hls hS hk
  refine lv_if_eq F.1 F.2.1 hd ht (fun h => ?_) (fun h => ?_)
  · exact q1 h p e R s mm args below meth cd H locs L QQ F hf hl hr hw hL hst.2 hls hS hk
  · exact q2 h p e R s mm args below meth cd H locs L QQ F hf hl hr hw hL hst.2 hls hS hk
theorem Wq.ifne {x : Int32} {off : Int} {tgt : Nat} (hd : decode M.2.1 pc = .ok (.ifCond .ne off, 3)) (ht : (pc : Int) + off = (tgt : Int)) (q1 : ¬ x = 0 → Wq g d M c n tgt ls st m Q) (q2 : x = 0 → Wq g d M c n (pc + 3) ls st m Q) : Wq g d M c n pc ls (pI x :: st) m Q := by
  intro p e R s mm args below meth cd H locs L QQ F hf hl hr hw hL hst hls hS hk
  refine lv_if_ne F.1 F.2.1 hd ht (fun h => ?_) (fun h => ?_)
  · exact q1 h p e R s mm args below meth cd H locs L QQ F hf hl hr hw hL hst.2 hls hS hk
  · exact q2 h p e R s mm args below meth cd H locs L QQ F hf hl hr hw hL hst.2 hls hS hk
theorem Wq.iflt {x : Int32} {off : Int} {tgt : Nat} (hd : decode M.2.1 pc = .ok (.ifCond .lt off, 3)) (ht : (pc : Int) + off = (tgt : Int)) (q1 : x < 0 → Wq g d M c n tgt ls st m Q) (q2 : ¬ x < 0 → Wq g d M c n (pc + 3) ls st m Q) : Wq g d M c n pc ls (pI x :: st) m Q := by
  intro p e R s mm args below meth cd H locs L QQ F hf hl hr hw hL hst hls hS hk
  refine lv_if_lt F.1 F.2.1 hd ht (fun h => ?_) (fun h => ?_)
  · exact q1 h p e R s mm args below meth cd H locs L QQ F hf hl hr hw hL hst.2 hls hS hk
  · exact q2 h p e R s mm args below meth cd H locs L QQ F hf hl hr hw hL hst.2 hls hS hk
theorem Wq.ifge {x : Int32} {off : Int} {tgt : Nat} (hd : decode M.2.1 pc = .ok (.ifCond .ge off, 3)) (ht : (pc : Int) + off = (tgt : Int)) (q1 : 0 ≤ x → Wq g d M c n tgt ls st m Q) (q2 : ¬ 0 ≤ x → Wq g d M c n (pc + 3) ls st m Q) : Wq g d M c n pc ls (pI x :: st) m Q := by
  intro p e R s mm args below meth cd H locs L QQ F hf hl hr hw hL hst hls hS hk
  refine lv_if_ge F.1 F.2.1 hd ht (fun h => ?_) (fun h => ?_)
  · exact q1 h p e R s mm args below meth cd H locs L QQ F hf hl hr hw hL hst.2 hls hS hk
  · exact q2 h p e R s mm args below meth cd H locs L QQ F hf hl hr hw hL hst.2 hls hS hk
theorem Wq.ifgt {x : Int32} {off : Int} {tgt : Nat} (hd : decode M.2.1 pc = .ok (.ifCond .gt off, 3)) (ht : (pc : Int) + off = (tgt : Int)) (q1 : 0 < x → Wq g d M c n tgt ls st m Q) (q2 : ¬ 0 < x → Wq g d M c n (pc + 3) ls st m Q) : Wq g d M c n pc ls (pI x :: st) m Q := by
  intro p e R s mm args below meth cd H locs L QQ F hf hl hr hw hL hst hls hS hk
  refine lv_if_gt F.1 F.2.1 hd ht (fun h => ?_) (fun h => ?_)
  · exact q1 h p e R s mm args below meth cd H locs L QQ F hf hl hr hw hL hst.2 hls hS hk
  · exact q2 h p e R s mm args below meth cd H locs L QQ F hf hl hr hw hL hst.2 hls hS hk
theorem Wq.ifle {x : Int32} {off : Int} {tgt : Nat} (hd : decode M.2.1 pc = .ok (.ifCond .le off, 3)) (ht : (pc : Int) + off = (tgt : Int)) (q1 : x ≤ 0 → Wq g d M c n tgt ls st m Q) (q2 : ¬ x ≤ 0 → Wq g d M c n (pc + 3) ls st m Q) : Wq g d M c n pc ls (pI x :: st) m Q := by
  intro p e R s mm args below meth cd H locs L QQ F hf hl hr hw hL hst hls hS hk
  refine lv_if_le F.1 F.2.1 hd ht (fun h => ?_) (fun h => ?_)
  · exact q1 h p e R s mm args below meth cd H locs L QQ F hf hl hr hw hL hst.2 hls hS hk
  · exact q2 h p e R s mm args below meth cd H locs L QQ F hf hl hr hw hL hst.2 hls hS hk
theorem Wq.icmpeq {x y : Int32} {off : Int} {tgt : Nat} (hd : decode M.2.1 pc = .ok (.if_icmp .eq off, 3)) (ht : (pc : Int) + off = (tgt : Int)) (q1 : x = y → Wq g d M c n tgt ls st m Q) (q2 : ¬ x = y → Wq g d M c n (pc + 3) ls st m Q) : Wq g d M c n pc ls (pI y :: pI x :: st) m Q := by
  intro p e R s mm args below meth cd H locs L QQ F hf hl hr hw hL hst hls hS hk
  refine lv_icmp_eq F.1 F.2.1 hd ht (fun h => ?_) (fun h => ?_)
  · exact q1 h p e R s mm args below meth cd H locs L QQ F hf hl hr hw hL hst.2.2 hls hS hk
  · exact q2 h p e R s mm args below meth cd H locs L QQ F hf hl hr hw hL hst.2.2 hls hS hk
theorem Wq.icmpne {x y : Int32} {off : Int} {tgt : Nat} (hd : decode M.2.1 pc = .ok (.if_icmp .ne off, 3)) (ht : (pc : Int) + off = (tgt : Int)) (q1 : ¬ x = y → Wq g d M c n tgt ls st m Q) (q2 : x = y → Wq g d M c n (pc + 3) ls st m Q) : Wq g d M c n pc ls (pI y :: pI x :: st) m Q := by
  intro p e R s mm args below meth cd H locs L QQ F hf hl hr hw hL hst hls hS hk
  refine lv_icmp_ne F.1 F.2.1 hd ht (fun h => ?_) (fun h => ?_)
  · exact q1 h p e R s mm args below meth cd H locs L QQ F hf hl hr hw hL hst.2.2 hls hS hk
  · exact q2 h p e R s mm args below meth cd H locs L QQ F hf hl hr hw hL hst.2.2 hls hS hk
theorem Wq.icmplt {x y : Int32} {off : Int} {tgt : Nat} (hd : decode M.2.1 pc = .ok (.if_icmp .lt off, 3)) (ht : (pc : Int) + off = (tgt : Int)) (q1 : x < y → Wq g d M c n tgt ls st m Q) (q2 : ¬ x < y → Wq g d M c n (pc + 3) ls st m Q) : Wq g d M c n pc ls (pI y :: pI x :: st) m Q := by
  intro p e R s mm args below meth cd H locs L QQ F hf hl hr hw hL hst hls hS hk
  refine lv_icmp_lt F.1 F.2.1 hd ht (fun h => ?_) (fun h => ?_)
  · exact q1 h p e R s mm args below meth cd H locs L QQ F hf hl hr hw hL hst.2.2 hls hS hk
  · exact q2 h p e R s mm args below meth cd H locs L QQ F hf hl hr hw hL hst.2.2 hls hS hk
theorem Wq.icmpge {x y : Int32} {off : Int} {tgt : Nat} (hd : decode M.2.1 pc = .ok (.if_icmp .ge off, 3)) (ht : (pc : Int) + off = (tgt : Int)) (q1 : y ≤ x → Wq g d M c n tgt ls st m Q) (q2 : ¬ y ≤ x → Wq g d M c n (pc + 3) ls st m Q) : Wq g d M c n pc ls (pI y :: pI x :: st) m Q := by
  intro p e R s mm args below meth cd H locs L QQ F hf hl hr hw hL hst hls hS hk
  refine lv_icmp_ge F.1 F.2.1 hd ht (fun h => ?_) (fun h => ?_)
  · exact q1 h p e R s mm args below meth cd H locs L QQ F hf hl hr hw hL hst.2.2 hls hS hk
  · exact q2 h p e R s mm args below meth cd H locs L QQ F hf hl hr hw hL hst.2.2 hls hS hk
theorem Wq.icmpgt {x y : Int32} {off : Int} {tgt : Nat} (hd : decode M.2.1 pc = .ok (.if_icmp .gt off, 3)) (ht : (pc : Int) + off = (tgt : Int)) (q1 : y < x → Wq g d M c n tgt ls st m Q) (q2 : ¬ y < x → Wq g d M c n (pc + 3) ls st m Q) : Wq g d M c n pc ls (pI y :: pI x :: st) m Q := by
  intro p e R s mm args below meth cd H locs L QQ F hf hl hr hw hL hst hls hS hk
  refine lv_icmp_gt F.1 F.2.1 hd ht (fun h => ?_) (fun h => ?_)
  · exact q1 h p e R s mm args below meth cd H locs L QQ F hf hl hr hw hL hst.2.2 hls hS hk
  · exact q2 h p e R s mm args below meth cd H locs L QQ F hf hl hr hw hL hst.2.2 hls hS hk
theorem Wq.icmple {x y : Int32} {off : Int} {tgt : Nat} (hd : decode M.2.1 pc = .ok (.if_icmp .le off, 3)) (ht : (pc : Int) + off = (tgt : Int)) (q1 : x ≤ y → Wq g d M c n tgt ls st m Q) (q2 : ¬ x ≤ y → Wq g d M c n (pc + 3) ls st m Q) : Wq g d M c n pc ls (pI y :: pI x :: st) m Q := by
  intro p e R s mm args below meth cd H locs L QQ F hf hl hr hw hL hst hls hS hk
  refine lv_icmp_le F.1 F.2.1 hd ht (fun h => ?_) (fun h => ?_)
  · exact q1 h p e R s mm args below meth cd H locs L QQ F hf hl hr hw hL hst.2.2 hls hS hk
  · exact q2 h p e R s mm args below meth cd H locs L QQ F hf hl hr hw hL hst.2.2 hls hS hk
theorem Wq.tableIn {dflt lo hi : Int} {offs : Array Int} {len : Nat} {x : Int32} {off : Int} {tgt : Nat} (hd : decode M.2.1 pc = .ok (.tableswitch dflt lo hi offs, len)) (h1 : ¬ x.toInt < lo) (h2 : ¬ hi < x.toInt) (ho : offs[(x.toInt - lo).toNat]? = some off) (ht : (pc : Int) + off = (tgt : Int)) (q : Wq g d M c n tgt ls st m Q) : Wq g d M c n pc ls (pI x :: st) m Q := by
  intro p e R s mm args below meth cd H locs L QQ F hf hl hr hw hL hst hls hS hk
  refine lv_tableIn F.1 F.2.1 hd h1 h2 ho ht ?_
  exact q p e R s mm args below meth cd H locs L QQ F hf hl hr hw hL hst.2 hls hS hk
theorem Wq.tableOut {dflt lo hi : Int} {offs : Array Int} {len : Nat} {x : Int32} {tgt : Nat} (hd : decode M.2.1 pc = .ok (.tableswitch dflt lo hi offs, len)) (h : x.toInt < lo ∨ hi < x.toInt) (ht : (pc : Int) + dflt = (tgt : Int)) (q : Wq g d M c n tgt ls st m Q) : Wq g d M c n pc ls (pI x :: st) m Q := by
  intro p e R s mm args below meth cd H locs L QQ F hf hl hr hw hL hst hls hS hk
  refine lv_tableOut F.1 F.2.1 hd h ht ?_
  exact q p e R s mm args below meth cd H locs L QQ F hf hl hr hw hL hst.2 hls hS hk
theorem Wq.lookup {dflt : Int} {ps : Array (Int × Int)} {len : Nat} {x : Int32} {off : Int} {tgt : Nat} (hd : decode M.2.1 pc = .ok (.lookupswitch dflt ps, len)) (hp : (ps.toList.zip (ps.toList.drop 1)).all (fun (a, next) => a.1 < next.1) = true) (ho : Op.lookupswitch.offset ps.toList dflt x.toInt = off) (ht : (pc : Int) + off = (tgt : Int)) (q : Wq g d M c n tgt ls st m Q) : Wq g d M c n pc ls (pI x :: st) m Q := by
  intro p e R s mm args below meth cd H locs L QQ F hf hl hr hw hL hst hls hS hk
  refine lv_lookup F.1 F.2.1 hd hp ho ht ?_
  exact q p e R s mm args below meth cd H locs L QQ F hf hl hr hw hL hst.2 hls hS hk
end RL
end
section
/-! MEMORY: fields, rows, statics -/
theorem trip_of {z : Nat × Nat × Nat} (h : z ∈ trip ++ rtrip) (h1 : z.1 < 41) : z ∈ trip := by
  rcases List.mem_append.mp h with h | h
  · exact h
  · exact absurd (rtrip_big z h) (by omega)
theorem trip_ix {z : Nat × Nat × Nat} (h : z ∈ trip) : ∃ q0 : Nat, trip[q0]? = some z := List.getElem?_of_mem h
theorem lay_ok : ∀ z ∈ trip, (fds z.1).all (fun e => e.1 != 3 || decide ((e.2.1, (if e.2.2 = 0 then z.2.1 else e.2.2 - 1), z.2.2) ∈ trip)) = true := by decide +kernel
theorem fget_ok {z : Nat × Nat × Nat} {m : PM} {k : Nat} {v : PV} (h : z ∈ trip) (hv : fget z m k = some v) : vOK v := by
  unfold fget at hv
  cases hd : (fds z.1)[k]? with
  | none => rw [hd] at hv; cases hv
  | some e =>
    rw [hd] at hv
    have hv : fvl z m k e = v := Option.some.inj hv
    have ha := List.all_eq_true.mp (lay_ok z h) e (List.mem_of_getElem? hd)
    subst hv
    unfold fvl
    by_cases e3 : e.1 = 3
    · rw [if_pos e3]
      rw [e3] at ha
      simp at ha
      by_cases e0 : e.2.2 = 0
      · rw [if_pos e0]
        rw [if_pos e0] at ha
        exact List.mem_append_left _ ha
      · rw [if_neg e0]
        rw [if_neg e0] at ha
        exact List.mem_append_left _ ha
    · rw [if_neg e3]
      by_cases e2 : e.1 = 2
      · rw [if_pos e2]; trivial
      · rw [if_neg e2]; trivial
theorem obv_at {g : GG} {m : PM} {z : Nat × Nat × Nat} {k : Nat} {v : PV} (hv : fget z m k = some v) : (obv g m z)[k]? = some (pv g v) := by
  have hk : k < (fds z.1).length := by
    unfold fget at hv
    cases hd : (fds z.1)[k]? with
    | none => rw [hd] at hv; cases hv
    | some e => exact (List.getElem?_eq_some_iff.mp hd).1
  unfold obv
  rw [List.getElem?_map, List.getElem?_range hk]
  show some (match fget z m k with | some v => pv g v | none => Value.null) = _
  rw [hv]
theorem setI_at (m : PM) (t r j k : Nat) (x : Int32) : (setI m t r j k x).1 r t j = upd (m.1 r t j) k x := setR_s m t r j _
theorem obv_len (g : GG) (m : PM) (z : Nat × Nat × Nat) : (obv g m z).length = (fds z.1).length := by simp [obv]
theorem obv_set {g : GG} {m : PM} {t r j k : Nat} {x : Int32} {e : Nat × Nat × Nat} (he : (fds t)[k]? = some e) (h3 : e.1 ≠ 3) (h2 : e.1 ≠ 2) : obv g (setI m t r j k x) (t, r, j) = (obv g m (t, r, j)).set k (.int x) := by
  have hk : k < (fds t).length := (List.getElem?_eq_some_iff.mp he).1
  apply List.ext_getElem?
  intro i
  rw [List.getElem?_set]
  by_cases hi : k = i
  · subst hi
    have : fget (t, r, j) (setI m t r j k x) k = some (pI x) := by
      unfold fget
      show ((fds t)[k]?).map _ = _
      rw [he]
      show some (fvl _ _ _ _) = _
      unfold fvl
      rw [if_neg h3, if_neg h2]
      show some (pI ((setI m t r j k x).1 r t j k)) = _
      rw [setI_at]
      simp [upd]
    rw [obv_at this, obv_len]
    simp [hk, pv]
  · rw [if_neg hi]
    by_cases hl : i < (fds t).length
    · unfold obv
      rw [List.getElem?_map, List.getElem?_map, List.getElem?_range hl]
      have : fget (t, r, j) (setI m t r j k x) i = fget (t, r, j) m i := by
        unfold fget
        cases hd : (fds t)[i]? with
        | none => rfl
        | some d =>
          show some (fvl _ _ _ _) = some (fvl _ _ _ _)
          unfold fvl
          by_cases e3 : d.1 = 3
          · rw [if_pos e3, if_pos e3]
          · rw [if_neg e3, if_neg e3]
            by_cases e2 : d.1 = 2
            · rw [if_pos e2, if_pos e2]; rfl
            · rw [if_neg e2, if_neg e2]
              show some (pI ((setI m t r j k x).1 r t j i)) = some (pI (m.1 r t j i))
              rw [setI_at]
              show some (pI (if i = k then x else m.1 r t j i)) = _
              rw [if_neg (fun q => hi q.symm)]
      show some (match fget (t, r, j) (setI m t r j k x) i with | some v => pv g v | none => Value.null) = some (match fget (t, r, j) m i with | some v => pv g v | none => Value.null)
      rw [this]
    · rw [List.getElem?_eq_none (by rw [obv_len]; exact Nat.le_of_not_lt hl), List.getElem?_eq_none (by rw [obv_len]; exact Nat.le_of_not_lt hl)]
theorem World_set {g : GG} {m m' : PM} {z : Nat × Nat × Nat} {q0 : Nat} {e : va_E} {H1 : Heap} (h : trip[q0]? = some z) (hP : va_P (gD g) vwCl ((cells g m).set q0 (ga g z.1 z.2.1 z.2.2, e)) H1) (he : cellE g m' z = e) (ho : ∀ z' ∈ trip, z' ≠ z → cellE g m' z' = cellE g m z') : World g m' H1 := by
  have := cells_set h he ho
  rw [this] at hP
  exact hP
theorem vp_dec {x : Int32} {k : Nat} (h : decide (¬ (x < 0 ∨ k ≤ x.toNatClampNeg)) = true) : vp_in x k := by
  have h1 := of_decide_eq_true h
  exact h1
/-- a field of a class, as a class names it -/
def FL (own : String) (idx ci k : Nat) : Prop := ∃ (C : String) (T : u_T) (N : Nat) (ty : Nat → FieldType), vwCl[ci]? = some (C, T, N) ∧ k < N ∧ (∀ w ∈ u_ws C T N, w ∈ gTbl) ∧ Cond.fieldLink own idx (T k).1 (T k).2.1 (T k).2.2.1 ∈ gTbl ∧ (∀ k, k < N → parseFieldDescriptor (T k).2.2.1 = some (ty k)) ∧ (∀ a, a < N → ∀ b, b < N → a ≠ b → (T a).2.1 ≠ (T b).2.1)
def FLw (own : String) (idx ci k : Nat) (tc : FieldType) : Prop := ∃ (C : String) (T : u_T) (N : Nat) (ty : Nat → FieldType), vwCl[ci]? = some (C, T, N) ∧ k < N ∧ (∀ w ∈ u_ws C T N, w ∈ gTbl) ∧ Cond.fieldLink own idx (T k).1 (T k).2.1 (T k).2.2.1 ∈ gTbl ∧ (∀ k, k < N → parseFieldDescriptor (T k).2.2.1 = some (ty k)) ∧ (∀ a, a < N → ∀ b, b < N → a ≠ b → (T a).2.1 ≠ (T b).2.1) ∧ (T k).2.2.2 = false ∧ parseFieldDescriptor (T k).2.2.1 = some tc
section RM
variable {g : GG} {d : Nat} {M : MD} {c n pc : Nat} {ls : List (Option PV)} {st : List PV} {m : PM} {Q : Ou → PM → Nat → Nat → Prop}
theorem Wq.getf {idx ci k t r j : Nat} {v : PV} (hd : decode M.2.1 pc = .ok (.getfield idx, 3)) (h : FL M.1 idx ci k) (ht : cix t = ci ∧ ark t = none ∧ t < 41) (hv : fget (t, r, j) m k = some v) (q : Wq g d M c n (pc + 3) ls (v :: st) m Q) : Wq g d M c n pc ls (pO t r j :: st) m Q := by
  intro p e R s mm args below meth cd H locs L QQ F hf hl hr hw hL hst hls hS hk
  obtain ⟨C, T, N, ty, h1, h2, h3, h4, h5, h6⟩ := h
  have hz := trip_of hst.1 ht.2.2
  obtain ⟨q0, hq⟩ := trip_ix hz
  have he : (cells g m)[q0]? = some (ga g t r j, .inr (ci, obv g m (t, r, j))) := by
    rw [cells_at hq]
    show some (_, cellE g m (t, r, j)) = _
    unfold cellE
    rw [show ark (t, r, j).1 = none from ht.2.1]
    show some (_, Sum.inr (cix t, _)) = _
    rw [ht.1]
  refine va_get F.1 F.2.1 F.2.2.2.2.1 h3 F.2.2.2.1 F.2.2.2.2.2.1.2.1 hw q0 he h1 k h2 (F.2.2.2.2.1 _ h4) (fun _ h => h) (obv_at hv) hd ?_
  exact q p e R s mm args below meth cd H locs L QQ F hf hl hr hw hL ⟨fget_ok hz hv, hst.2⟩ hls hS hk
theorem arks {t : Nat} : (ark t = none → t ≠ 11) := fun h e => by subst e; exact absurd h (by decide)
theorem kept_setR {m : PM} {t r j : Nat} {f : Nat → Int32} (h11 : t ≠ 11 ∨ (r = 8 ∧ j = 0)) {z' : Nat × Nat × Nat} (hz : z' ∈ trip) (hne : z' ≠ (t, r, j)) : cellE g (setR m t r j f) z' = cellE g m z' := by
  obtain ⟨t', r', j'⟩ := z'
  refine cellE_kept (setR_n m f hne) (fun _ => rfl) (fun _ => rfl) (fun e => ?_)
  have e : t' = 11 := e
  subst e
  refine setR_n m f fun q => ?_
  rcases h11 with h | h
  · exact h (congrArg Prod.fst q).symm
  · have hz2 : (11, r', j') = (11, 8, 0) := by
      have : ∀ z ∈ trip, z.1 = 11 → z = (11, 8, 0) := by decide +kernel
      exact this _ hz rfl
    exact hne (hz2.trans q)
theorem Wq.putI {idx ci k t r j : Nat} {x : Int32} {tc : FieldType} {e0 : Nat × Nat × Nat} (hd : decode M.2.1 pc = .ok (.putfield idx, 3)) (h : FLw M.1 idx ci k tc) (ht : cix t = ci ∧ ark t = none ∧ t < 41) (hk0 : (fds t)[k]? = some e0 ∧ e0.1 ≠ 3 ∧ e0.1 ≠ 2) (hx : narrow tc (.int x) = .int x ∧ fits tc (.int x) = true) (q : Wq g d M c n (pc + 3) ls st (setI m t r j k x) Q) : Wq g d M c n pc ls (pI x :: pO t r j :: st) m Q := by
  intro p e R s mm args below meth cd H locs L QQ F hf hl hr hw hL hst hls hS hk
  obtain ⟨C, T, N, ty, h1, h2, h3, h4, h5, h6, h7, h8⟩ := h
  have hz := trip_of hst.2.1 ht.2.2
  obtain ⟨q0, hq⟩ := trip_ix hz
  have hce : ∀ m' : PM, cellE g m' (t, r, j) = .inr (ci, obv g m' (t, r, j)) := fun m' => by
    unfold cellE
    rw [show ark (t, r, j).1 = none from ht.2.1]
    show Sum.inr (cix t, _) = _
    rw [ht.1]
  have he : (cells g m)[q0]? = some (ga g t r j, .inr (ci, obv g m (t, r, j))) := by
    rw [cells_at hq, hce]
  refine va_put F.1 F.2.1 F.2.2.2.2.1 h3 ty h5 h6 F.2.2.2.1 F.2.2.2.2.2.1.2.1 hw (F.2.2.2.2.2.1.2.2.2.1 m) hS q0 he h1 k h2 (F.2.2.2.2.1 _ h4) (fun _ h => h) h7 h8 hx.1 hx.2 (by rw [obv_len]; exact (List.getElem?_eq_some_iff.mp hk0.1).1) hd (fun H1 locs1 hP1 _ hS1 => ?_)
  have hw1 := World_set (g := g) (m := m) (m' := setI m t r j k x) (e := .inr (ci, (obv g m (t, r, j)).set k (.int x))) hq hP1 (by rw [hce, obv_set hk0.1 hk0.2.1 hk0.2.2]) (fun z' hz' hne => kept_setR (Or.inl (arks ht.2.1)) hz' hne)
  exact q p e R s mm args below meth cd H1 locs1 L QQ F hf hl hr hw1 hL hst.2.2 hls hS1 hk
/-- the place of a row in the world -/
theorem row_at {t r j k n0 : Nat} (ha : ark t = some (k, n0)) (hz : (t, r, j) ∈ trip) : ∃ q0 : Nat, trip[q0]? = some (t, r, j) ∧ (cells g m)[q0]? = some (ga g t r j, .inl (gc g k, n0, arc g m (t, r, j) k)) := by
  obtain ⟨q0, hq⟩ := trip_ix hz
  refine ⟨q0, hq, ?_⟩
  rw [cells_at hq]
  unfold cellE
  rw [show ark (t, r, j).1 = some (k, n0) from ha]
theorem cellE_row {m' : PM} {t r j k n0 : Nat} (ha : ark t = some (k, n0)) : cellE g m' (t, r, j) = .inl (gc g k, n0, arc g m' (t, r, j) k) := by
  unfold cellE
  rw [show ark (t, r, j).1 = some (k, n0) from ha]
theorem ark_lt {t : Nat} {v : Nat × Nat} (h : ark t = some v) : t < 41 := by
  rcases Nat.lt_or_ge t 41 with q | q
  · exact q
  · rw [ark_none q] at h; cases h
theorem Wq.iald {t r j n0 : Nat} {i : Int32} (hd : decode M.2.1 pc = .ok (.iaload, 1)) (ha : ark t = some (0, n0)) (hi : vp_in i n0) (q : Wq g d M c n (pc + 1) ls (pI (m.1 r t j (ix i)) :: st) m Q) : Wq g d M c n pc ls (pI i :: pO t r j :: st) m Q := by
  intro p e R s mm args below meth cd H locs L QQ F hf hl hr hw hL hst hls hS hk
  obtain ⟨q0, -, hq⟩ := row_at (g := g) (m := m) ha (trip_of hst.2.1 (ark_lt ha))
  refine va_iald F.1 F.2.1 F.2.2.2.2.2.1.2.1 hw q0 0 (f := m.1 r t j) hq rfl hi hd ?_
  exact q p e R s mm args below meth cd H locs L QQ F hf hl hr hw hL ⟨trivial, hst.2.2⟩ hls hS hk
theorem Wq.zald {t r j n0 : Nat} {i : Int32} (hd : decode M.2.1 pc = .ok (.baload, 1)) (ha : ark t = some (1, n0)) (hi : vp_in i n0) (q : Wq g d M c n (pc + 1) ls (pI (m.1 r t j (ix i)) :: st) m Q) : Wq g d M c n pc ls (pI i :: pO t r j :: st) m Q := by
  intro p e R s mm args below meth cd H locs L QQ F hf hl hr hw hL hst hls hS hk
  obtain ⟨q0, -, hq⟩ := row_at (g := g) (m := m) ha (trip_of hst.2.1 (ark_lt ha))
  refine va_zald F.1 F.2.1 F.2.2.2.2.2.1.2.1 hw q0 1 (f := m.1 r t j) hq rfl hi hd ?_
  exact q p e R s mm args below meth cd H locs L QQ F hf hl hr hw hL ⟨trivial, hst.2.2⟩ hls hS hk
theorem pup_ok : ∀ z ∈ trip, z.1 = 7 → ∀ j, j < 12 → (4, z.2.1, j) ∈ trip := by decide +kernel
theorem exa_ok : ∀ z ∈ trip, z.1 = 8 → ∀ j, j < 4 → (5, z.2.1, j) ∈ trip := by decide +kernel
theorem off_ok : ∀ j, j < 8 → (0, j, 0) ∈ trip := by decide +kernel
theorem vp_lt {i : Int32} {k : Nat} (h : vp_in i k) : ix i < k := by
  rcases Nat.lt_or_ge (ix i) k with q | q
  · exact q
  · exact absurd (Or.inr q) h
theorem Wq.aaldP {r j : Nat} {i : Int32} (hd : decode M.2.1 pc = .ok (.aaload, 1)) (hi : vp_in i 12) (q : Wq g d M c n (pc + 1) ls (pO 4 r (ix i) :: st) m Q) : Wq g d M c n pc ls (pI i :: pO 7 r j :: st) m Q := by
  intro p e R s mm args below meth cd H locs L QQ F hf hl hr hw hL hst hls hS hk
  have hz := trip_of hst.2.1 (show 7 < 41 by decide)
  obtain ⟨q0, -, hq⟩ := row_at (g := g) (m := m) (t := 7) (k := 3) (n0 := 12) rfl hz
  refine va_aldq F.1 F.2.1 F.2.2.2.2.2.1.2.1 hw q0 3 (f := fun i => some (ga g 4 r i)) hq rfl hi hd ?_
  exact q p e R s mm args below meth cd H locs L QQ F hf hl hr hw hL ⟨List.mem_append_left _ (pup_ok _ hz rfl _ (vp_lt hi)), hst.2.2⟩ hls hS hk
theorem Wq.aaldE {r j : Nat} {i : Int32} (hd : decode M.2.1 pc = .ok (.aaload, 1)) (hi : vp_in i 4) (q : Wq g d M c n (pc + 1) ls (pO 5 r (ix i) :: st) m Q) : Wq g d M c n pc ls (pI i :: pO 8 r j :: st) m Q := by
  intro p e R s mm args below meth cd H locs L QQ F hf hl hr hw hL hst hls hS hk
  have hz := trip_of hst.2.1 (show 8 < 41 by decide)
  obtain ⟨q0, -, hq⟩ := row_at (g := g) (m := m) (t := 8) (k := 4) (n0 := 4) rfl hz
  refine va_aldq F.1 F.2.1 F.2.2.2.2.2.1.2.1 hw q0 4 (f := fun i => some (ga g 5 r i)) hq rfl hi hd ?_
  exact q p e R s mm args below meth cd H locs L QQ F hf hl hr hw hL ⟨List.mem_append_left _ (exa_ok _ hz rfl _ (vp_lt hi)), hst.2.2⟩ hls hS hk
theorem Wq.aaldS {r j : Nat} {i : Int32} (hd : decode M.2.1 pc = .ok (.aaload, 1)) (hi : vp_in i 6) (ho : ix (m.1 8 11 0 (ix i)) < 8) (q : Wq g d M c n (pc + 1) ls (pO 0 (ix (m.1 8 11 0 (ix i))) 0 :: st) m Q) : Wq g d M c n pc ls (pI i :: pO 11 r j :: st) m Q := by
  intro p e R s mm args below meth cd H locs L QQ F hf hl hr hw hL hst hls hS hk
  have hz := trip_of hst.2.1 (show 11 < 41 by decide)
  obtain ⟨q0, -, hq⟩ := row_at (g := g) (m := m) (t := 11) (k := 5) (n0 := 6) rfl hz
  refine va_aldq F.1 F.2.1 F.2.2.2.2.2.1.2.1 hw q0 5 (f := fun i => some (ga g 0 (ix (m.1 8 11 0 i)) 0)) hq rfl hi hd ?_
  exact q p e R s mm args below meth cd H locs L QQ F hf hl hr hw hL ⟨List.mem_append_left _ (off_ok _ ho), hst.2.2⟩ hls hS hk
theorem Wq.alen {t r j k n0 : Nat} {v : Int32} (hd : decode M.2.1 pc = .ok (.arraylength, 1)) (ha : ark t = some (k, n0)) (hk0 : k < 6) (hv : Int32.ofNat n0 = v) (q : Wq g d M c n (pc + 1) ls (pI v :: st) m Q) : Wq g d M c n pc ls (pO t r j :: st) m Q := by
  intro p e R s mm args below meth cd H locs L QQ F hf hl hr hw hL hst hls hS hk
  obtain ⟨q0, -, hq⟩ := row_at (g := g) (m := m) ha (trip_of hst.1 (ark_lt ha))
  have ht : ∃ ty, (tysG g)[k]? = some (gc g k, ty) := by
    match k, hk0 with
    | 0, _ => exact ⟨_, rfl⟩
    | 1, _ => exact ⟨_, rfl⟩
    | 2, _ => exact ⟨_, rfl⟩
    | 3, _ => exact ⟨_, rfl⟩
    | 4, _ => exact ⟨_, rfl⟩
    | 5, _ => exact ⟨_, rfl⟩
  obtain ⟨ty, ht⟩ := ht
  refine va_alen F.1 F.2.1 F.2.2.2.2.2.1.2.1 hw q0 k hq ht hv hd ?_
  exact q p e R s mm args below meth cd H locs L QQ F hf hl hr hw hL ⟨trivial, hst.2⟩ hls hS hk
theorem Wq.iast {t r j n0 : Nat} {i x : Int32} (hd : decode M.2.1 pc = .ok (.iastore, 1)) (ha : ark t = some (0, n0)) (hi : vp_in i n0) (q : Wq g d M c n (pc + 1) ls st (setI m t r j (ix i) x) Q) : Wq g d M c n pc ls (pI x :: pI i :: pO t r j :: st) m Q := by
  intro p e R s mm args below meth cd H locs L QQ F hf hl hr hw hL hst hls hS hk
  obtain ⟨q0, hq0, hq⟩ := row_at (g := g) (m := m) ha (trip_of hst.2.2.1 (ark_lt ha))
  refine va_iast F.1 F.2.1 F.2.2.2.2.2.1.2.1 hw (F.2.2.2.2.2.1.2.2.2.1 m) hS q0 0 (f := m.1 r t j) hq rfl hi hd (fun H1 locs1 hP1 _ hS1 => ?_)
  have h11 : t ≠ 11 := fun e => by subst e; exact absurd ha (by simp [ark])
  have hw1 := World_set (g := g) (m := m) (m' := setI m t r j (ix i) x) (e := .inl (gc g 0, n0, .inl (upd (m.1 r t j) (ix i) x))) hq0 hP1 (by rw [cellE_row ha]; show Sum.inl (_, _, Sum.inl ((setI m t r j (ix i) x).1 r t j)) = _; rw [setI_at]) (fun z' hz' hne => kept_setR (Or.inl h11) hz' hne)
  exact q p e R s mm args below meth cd H1 locs1 L QQ F hf hl hr hw1 hL hst.2.2.2 hls hS1 hk
theorem Wq.zast {t r j n0 : Nat} {i x : Int32} (hd : decode M.2.1 pc = .ok (.bastore, 1)) (ha : ark t = some (1, n0)) (hi : vp_in i n0) (hx : x = 0 ∨ x = 1) (q : Wq g d M c n (pc + 1) ls st (setI m t r j (ix i) x) Q) : Wq g d M c n pc ls (pI x :: pI i :: pO t r j :: st) m Q := by
  intro p e R s mm args below meth cd H locs L QQ F hf hl hr hw hL hst hls hS hk
  obtain ⟨q0, hq0, hq⟩ := row_at (g := g) (m := m) ha (trip_of hst.2.2.1 (ark_lt ha))
  have hnx : vp_nar .boolean x = x := by rcases hx with e | e <;> subst e <;> decide
  refine va_zast F.1 F.2.1 F.2.2.2.2.2.1.2.1 hw (F.2.2.2.2.2.1.2.2.2.1 m) hS q0 1 (f := m.1 r t j) hq rfl hi hd (fun H1 locs1 hP1 _ hS1 => ?_)
  have h11 : t ≠ 11 := fun e => by subst e; exact absurd ha (by simp [ark])
  rw [hnx] at hP1
  have hw1 := World_set (g := g) (m := m) (m' := setI m t r j (ix i) x) (e := .inl (gc g 1, n0, .inl (upd (m.1 r t j) (ix i) x))) hq0 hP1 (by rw [cellE_row ha]; show Sum.inl (_, _, Sum.inl ((setI m t r j (ix i) x).1 r t j)) = _; rw [setI_at]) (fun z' hz' hne => kept_setR (Or.inl h11) hz' hne)
  exact q p e R s mm args below meth cd H1 locs1 L QQ F hf hl hr hw1 hL hst.2.2.2 hls hS1 hk
theorem Wq.aast {r0 : Nat} {i : Int32} (hd : decode M.2.1 pc = .ok (.aastore, 1)) (hi : vp_in i 6) (q : Wq g d M c n (pc + 1) ls st (setI m 11 8 0 (ix i) (nI r0)) Q) : Wq g d M c n pc ls (pO 0 r0 0 :: pI i :: pO 11 8 0 :: st) m Q := by
  intro p e R s mm args below meth cd H locs L QQ F hf hl hr hw hL hst hls hS hk
  obtain ⟨q0, hq0, hq⟩ := row_at (g := g) (m := m) (t := 11) (k := 5) (n0 := 6) rfl (trip_of hst.2.2.1 (Nat.le_of_ble_eq_true rfl))
  have hzv := trip_of hst.1 (show 0 < 41 by decide)
  have hr8 : r0 < 8 := by
    have : ∀ z ∈ trip, z.1 = 0 → z.2.1 < 8 := by decide +kernel
    exact this _ hzv rfl
  obtain ⟨qk, hqk⟩ := trip_ix hzv
  have hcv : (cells g m)[qk]? = some (ga g 0 r0 0, .inr (1, obv g m (0, r0, 0))) := by rw [cells_at hqk]; rfl
  refine va_astq F.1 F.2.1 F.2.2.2.2.2.1.2.1 hw (F.2.2.2.2.2.1.2.2.2.1 m) hS q0 5 qk 1 (f := fun i => some (ga g 0 (ix (m.1 8 11 0 i)) 0)) (r := (RX1, TX1, 10)) hq rfl hcv rfl hi hd (fun H1 locs1 hP1 _ hS1 => ?_)
  have hw1 := World_set (g := g) (m := m) (m' := setI m 11 8 0 (ix i) (nI r0)) (z := (11, 8, 0)) (e := .inl (gc g 5, 6, .inr (.inr (.inr (.inr (va_up (fun i => some (ga g 0 (ix (m.1 8 11 0 i)) 0)) (ix i) (some (ga g 0 r0 0)))))))) hq0 hP1 (by
    rw [cellE_row (k := 5) (n0 := 6) rfl]
    have e : (fun k : Nat => some (ga g 0 (ix ((setI m 11 8 0 (ix i) (nI r0)).1 8 11 0 k)) 0)) = va_up (fun i => some (ga g 0 (ix (m.1 8 11 0 i)) 0)) (ix i) (some (ga g 0 r0 0)) := by
      funext k
      rw [setI_at]
      by_cases h : k = ix i
      · simp [upd, va_up, h, nI_clamp (show r0 < 2 ^ 31 by omega)]
      · simp [upd, va_up, h]
    show Sum.inl (_, _, Sum.inr (Sum.inr (Sum.inr (Sum.inr (fun k : Nat => some (ga g 0 (ix ((setI m 11 8 0 (ix i) (nI r0)).1 8 11 0 k)) 0)))))) = _
    rw [e]) (fun z' hz' hne => kept_setR (Or.inr ⟨rfl, rfl⟩) hz' hne)
  exact q p e R s mm args below meth cd H1 locs1 L QQ F hf hl hr hw1 hL hst.2.2.2 hls hS1 hk
end RM
end
section
/-! RETURNS, CALLS -/
section RC
variable {g : GG} {d : Nat} {M : MD} {c n pc : Nat} {ls : List (Option PV)} {st : List PV} {m : PM} {Q : Ou → PM → Nat → Nat → Prop}
theorem Wq.iret {x : Int32} (hd : decode M.2.1 pc = .ok (.ireturn, 1)) (hn : ∃ rt, M.2.2.2.1 = some rt ∧ narrow rt (.int x) = .int x) (hQ : Q (.inl (some (pI x))) m c n) : Wq g d M c n pc ls [pI x] m Q := by
  intro p e R s mm args below meth cd H locs L QQ F hf hl hr hw hL hst hls hS hk
  exact hk (.inl (some (pI x))) m c n pc L [.int x] H locs hQ hw hL.1 hS ⟨hd, rfl, hn⟩
theorem Wq.lret {x : Int64} (hd : decode M.2.1 pc = .ok (.lreturn, 1)) (hn : M.2.2.2.1 = some .long) (hQ : Q (.inl (some (pL x))) m c n) : Wq g d M c n pc ls [pL x] m Q := by
  intro p e R s mm args below meth cd H locs L QQ F hf hl hr hw hL hst hls hS hk
  exact hk (.inl (some (pL x))) m c n pc L [.long x] H locs hQ hw hL.1 hS ⟨hd, rfl, hn⟩
theorem Wq.dret {x : UInt64} (hd : decode M.2.1 pc = .ok (.dreturn, 1)) (hn : M.2.2.2.1 = some .double) (hQ : Q (.inl (some (pD x))) m c n) : Wq g d M c n pc ls [pD x] m Q := by
  intro p e R s mm args below meth cd H locs L QQ F hf hl hr hw hL hst hls hS hk
  exact hk (.inl (some (pD x))) m c n pc L [.double x] H locs hQ hw hL.1 hS ⟨hd, rfl, hn⟩
theorem Wq.aret {t r j : Nat} (hd : decode M.2.1 pc = .ok (.areturn, 1)) (hn : ∃ n, M.2.2.2.1 = some (.object n)) (hQ : Q (.inl (some (pO t r j))) m c n) : Wq g d M c n pc ls [pO t r j] m Q := by
  intro p e R s mm args below meth cd H locs L QQ F hf hl hr hw hL hst hls hS hk
  exact hk (.inl (some (pO t r j))) m c n pc L [.ref (ga g t r j)] H locs hQ hw hL.1 hS ⟨hd, rfl, hn, hst.1⟩
theorem Wq.vret (hd : decode M.2.1 pc = .ok (.return_, 1)) (hn : M.2.2.2.1 = none) (hQ : Q (.inl none) m c n) : Wq g d M c n pc ls [] m Q := by
  intro p e R s mm args below meth cd H locs L QQ F hf hl hr hw hL hst hls hS hk
  exact hk (.inl none) m c n pc L [] H locs hQ hw hL.1 hS ⟨hd, rfl, hn⟩
theorem Wq.throw {E ik is ic : Nat} {tx : String} (hM : M.1 = "TestSlots") (d0 : decode M.2.1 pc = .ok (.new ik, 3)) (d3 : decode M.2.1 (pc + 3) = .ok (.dup, 1)) (d4 : decode M.2.1 (pc + 4) = .ok (.ldc is, 2)) (d6 : decode M.2.1 (pc + 6) = .ok (.invokespecial ic, 3)) (d9 : decode M.2.1 (pc + 9) = .ok (.athrow, 1)) (hs : (is, tx) ∈ exT) (hE : (E, ik, ic) ∈ [(1, 37, 41), (2, 94, 98), (3, 63, 67)]) (hQ : Q (.inr E) m c n) : Wq g d M c n pc ls [] m Q := by
  intro p e R s mm args below meth cd H locs L QQ F hf hl hr hw hL hst hls hS hk
  exact hk (.inr E) m c n pc L [] H locs hQ hw hL.1 hS ⟨ik, is, ic, tx, hM, d0, d3, d4, d6, d9, hs, hE, Nat.zero_le 8⟩
/-- the locals at a method's entry -/
def argL : List PV → List (Option PV)
  | [] => []
  | v :: l => if two (some v) then some v :: none :: argL l else some v :: argL l
theorem two_iff {g : GG} {v : PV} : (pv g v).category = 2 ↔ two (some v) = true := by
  rcases v with x | x | x | x <;> simp [pv, Value.category, two]
theorem argL_in {g : GG} : ∀ (avs : List PV) (i : Nat) (q : Nat × Value), q ∈ lp g i (argL avs) → q ∈ lv_args i (avs.map (pv g))
  | [], _, _, h => by cases h
  | v :: l, i, q, h => by
    unfold argL at h
    show q ∈ (i, pv g v) :: lv_args (if (pv g v).category = 2 then i + 2 else i + 1) (l.map (pv g))
    by_cases ht : two (some v) = true
    · rw [if_pos ht] at h
      rw [if_pos (two_iff.mpr ht)]
      rcases List.mem_cons.mp h with h | h
      · exact List.mem_cons.mpr (Or.inl h)
      · exact List.mem_cons.mpr (Or.inr (argL_in l (i + 2) q h))
    · rw [if_neg ht] at h
      rw [if_neg (fun z => ht (two_iff.mp z))]
      rcases List.mem_cons.mp h with h | h
      · exact List.mem_cons.mpr (Or.inl h)
      · exact List.mem_cons.mpr (Or.inr (argL_in l (i + 1) q h))
theorem argL_len {g : GG} : ∀ (avs : List PV), (lg_sl (avs.map (pv g))).length = (argL avs).length
  | [] => rfl
  | v :: l => by
    have ih := argL_len (g := g) l
    have e : lg_sl ((v :: l).map (pv g)) = (if (pv g v).category = 2 then [Slot.val (pv g v), .second] else [.val (pv g v)]) ++ lg_sl (l.map (pv g)) := by simp [lg_sl]
    have e2 : argL (v :: l) = if two (some v) then some v :: none :: argL l else some v :: argL l := rfl
    rw [e, List.length_append, ih, e2]
    by_cases ht : two (some v) = true
    · rw [if_pos ht, if_pos (two_iff.mpr ht)]
      simp only [List.length_cons, List.length_nil]
      omega
    · rw [if_neg ht, if_neg (fun z => ht (two_iff.mp z))]
      simp only [List.length_cons, List.length_nil]
      omega
theorem argL_all : ∀ {avs : List PV}, vAll avs → oAll (argL avs)
  | [], _ => trivial
  | v :: l, h => by
    unfold argL
    by_cases ht : two (some v) = true
    · rw [if_pos ht]
      exact ⟨h.1, argL_all h.2⟩
    · rw [if_neg ht]
      exact ⟨h.1, argL_all h.2⟩
/-- what a caller needs to know of a method: y by name; static or not -/
def MFs (y : MethodName) (M' : MD) (k : Nat) : Prop := y.cls = M'.1 ∧ (plainName y.cls = true ∧ M'.2.2.2.2 = []) ∧ Cond.code y M'.2.1 M'.2.2.1 M'.2.2.2.1 ∈ gTbl ∧ Cond.initialized y.cls ∈ gTbl ∧ (y.cls ≠ "java/lang/invoke/MethodHandle" ∧ y.cls ≠ "java/lang/invoke/VarHandle" ∧ (parseMethodDescriptor y.desc).map (fun d => d.parameters.length) = some k) ∧ M'.2.2.1 ≤ 14 ∧ Cond.static y ∈ gTbl
def MFv (y : MethodName) (M' : MD) (k : Nat) : Prop := y.cls = M'.1 ∧ (plainName y.cls = true ∧ M'.2.2.2.2 = []) ∧ Cond.code y M'.2.1 M'.2.2.1 M'.2.2.2.1 ∈ gTbl ∧ Cond.initialized y.cls ∈ gTbl ∧ (y.cls ≠ "java/lang/invoke/MethodHandle" ∧ y.cls ≠ "java/lang/invoke/VarHandle" ∧ (parseMethodDescriptor y.desc).map (fun d => d.parameters.length) = some k) ∧ M'.2.2.1 ≤ 14 ∧ Cond.instanceMethod y ∈ gTbl ∧ Cond.selects y.cls y y ∈ gTbl
/-- ends by their kind -/
def kQ (f : Option PV → PM → Prop) : Ou → PM → Prop := fun o m => match o with
  | .inl v => f v m
  | .inr _ => False
def cI (f : Int32 → PM → Prop) : Ou → PM → Prop := fun o m => match o with
  | .inl (some (.inl x)) => f x m
  | _ => False
def cL (f : Int64 → PM → Prop) : Ou → PM → Prop := fun o m => match o with
  | .inl (some (.inr (.inl x))) => f x m
  | _ => False
def cD (f : UInt64 → PM → Prop) : Ou → PM → Prop := fun o m => match o with
  | .inl (some (.inr (.inr (.inl x)))) => f x m
  | _ => False
def cO (f : Nat → Nat → Nat → PM → Prop) : Ou → PM → Prop := fun o m => match o with
  | .inl (some (.inr (.inr (.inr z)))) => f z.1 z.2.1 z.2.2 m
  | _ => False
def cV (f : PM → Prop) : Ou → PM → Prop := fun o m => match o with
  | .inl none => f m
  | _ => False
def vOKo (v : Option PV) : Prop := match v with
  | some v => vOK v
  | none => True
def QcM (g : GG) (Qp : Ou → PM → Prop) : Array Value → State → Outcome → State → Prop := fun _ st o t => (∃ (v : Option PV) (m' : PM), o = .returned (v.map (pv g)) ∧ Qp (.inl v) m' ∧ vOKo v ∧ World g m' t.heap) ∧ va_F (gA g) st t
abbrev PcM (g : GG) (avs : List PV) (m : PM) : Array Value → State → Prop := va_Pc (avs.map (pv g)) (fun U => World g m U.heap ∧ Kn g U)
theorem PcM_blind (avs : List PV) (m : PM) : FrameBlind (PcM g avs m) := fun _ _ _ _ h => ⟨h.1, h.2.1, h.2.2.same rfl rfl⟩
abbrev rmD (d : Nat) : Room := { frames := d, cells := 0, slots := 0, locals := 33 * d }
theorem met_of {M' : MD} {y : MethodName} {avs : List PV} {m : PM} {Qp : Ou → PM → Prop} (hcls : y.cls = M'.1) (hp : plainName y.cls = true ∧ M'.2.2.2.2 = []) (hlen : (argL avs).length ≤ M'.2.2.1) (hall : vAll avs) (hx : ∀ E m', ¬ Qp (.inr E) m') (hw : Wp g d M' 0 (argL avs) [] m Qp) :
    Met (gl g) y (Cond.code y M'.2.1 M'.2.2.1 M'.2.2.2.1 :: gTbl) (rmD d) (PcM g avs m) (QcM g Qp) 0 0 (gA g) := by
  refine Met.ofW (cc := M'.2.1) (maxL := M'.2.2.1) (ret := M'.2.2.2.1) hp.1 rfl ?_
  intro p e s mm args below meth cd s₁ B hml hv
  obtain ⟨rfl, hW, hKn⟩ := hv
  have hts : ∀ w ∈ gTbl, w.before ((avs.map (pv g)).toArray) s = true := fun w h => atoms_spec (ws := Cond.code y M'.2.1 M'.2.2.1 M'.2.2.2.1 :: gTbl) B.pre w (List.mem_cons_of_mem _ h)
  have hown : s.vm.findClass y.cls = some mm.cls := findClass_of_methodNamed B.named
  rw [hcls] at hown
  have hlocks : meth.locks = false := B.notSynchronized
  have htab : cd.exceptionTable.toList = tableOf M'.2.2.2.2 := by
    obtain ⟨meth9, c9, h1, h2, -, -, -, -, h7, -⟩ := Cond.code_spec B.named (atoms_spec (ws := Cond.code y M'.2.1 M'.2.2.1 M'.2.2.2.1 :: gTbl) B.pre _ List.mem_cons_self)
    cases Option.some.inj (h1.symm.trans B.method)
    cases Option.some.inj (h2.symm.trans (Stand.of_body B).code)
    rw [Array.isEmpty_iff.mp h7, hp.2]
    rfl
  have hl := lv_entry (avs.map (pv g)) (n := M'.2.2.1) (by rw [argL_len]; exact hlen)
  rw [lg_entry_eq]
  generalize (lg_sl (avs.map (pv g)) ++ List.replicate (M'.2.2.1 - (lg_sl (avs.map (pv g))).length) Slot.unset).toArray = L at hl ⊢
  refine hw p e _ s mm _ below meth cd s.heap [] L _ ⟨B.exec, B.bytes, hml, hown, hts, hKn, B.returns, hlocks, htab⟩ (Nat.le_refl d) (Nat.le_refl _) ⟨Nat.zero_le _, Nat.zero_le _⟩ hW ⟨hl.1, hl.2.1, fun q hq => hl.2.2 q (argL_in avs 0 q hq)⟩ trivial (argL_all hall) va_S.rf ?_
  rintro o m' c' n' pc' L' st' H' locs' ⟨rfl, rfl, hQ⟩ hw' hsz hS' hE
  match o, hQ, hE with
  | .inr E, hQ, _ => exact absurd hQ (hx E m')
  | .inl none, hQ, hE =>
    obtain ⟨h1, rfl, h3⟩ := hE
    exact W.vret B.exec B.bytes (B.returns.trans h3) (fun t ht hW2 => ⟨⟨none, m', rfl, hQ, trivial, by rw [ht]; exact hw'⟩, hS'.F ht⟩) hS'.2.2 h1
  | .inl (some (.inl x)), hQ, hE =>
    obtain ⟨h1, rfl, rt, h3, h4⟩ := hE
    exact W.zret (v := x) B.exec B.bytes (B.returns.trans h3) h4 (fun t ht hW2 => ⟨⟨some (pI x), m', rfl, hQ, trivial, by rw [ht]; exact hw'⟩, hS'.F ht⟩) hS'.2.2 h1
  | .inl (some (.inr (.inl x))), hQ, hE =>
    obtain ⟨h1, rfl, h3⟩ := hE
    exact W.lret (v := x) B.exec B.bytes (B.returns.trans h3) (fun t ht hW2 => ⟨⟨some (pL x), m', rfl, hQ, trivial, by rw [ht]; exact hw'⟩, hS'.F ht⟩) hS'.2.2 h1
  | .inl (some (.inr (.inr (.inl x)))), hQ, hE =>
    obtain ⟨h1, rfl, h3⟩ := hE
    exact W.dret (v := x) B.exec B.bytes (B.returns.trans h3) (fun t ht hW2 => ⟨⟨some (pD x), m', rfl, hQ, trivial, by rw [ht]; exact hw'⟩, hS'.F ht⟩) hS'.2.2 h1
  | .inl (some (.inr (.inr (.inr z)))), hQ, hE =>
    obtain ⟨h1, rfl, ⟨nm, h3⟩, h4⟩ := hE
    exact W.aret (v := .ref (ga g z.1 z.2.1 z.2.2)) B.exec B.bytes (B.returns.trans h3) (Or.inl ⟨nm, rfl⟩) (Or.inr ⟨_, rfl⟩) (fun t ht hW2 => ⟨⟨some (.inr (.inr (.inr z))), m', rfl, hQ, h4, by rw [ht]; exact hw'⟩, hS'.F ht⟩) hS'.2.2 h1
/-- behind a call -/
theorem after_run {p : Program} {e : Env} {R : Room} {s : State} {mm : MethodId} {args : Array Value} {below : List Frame} {meth : Method} {cd : Code} {H : Heap} {locs : List Loc} {L : Array Slot} {QQ : State → Prop} {st0 rest : List Value} {Qp : Ou → PM → Prop} {a : Array Value}
    (hr : va_Run p (gl g) e R s mm args below meth cd H locs c n 0 0 (F0 mm pc L st0) rest (QcM g Qp a) (gA g)) (hS : va_S (gA g) s.heap H locs)
    (kk : ∀ (v : Option PV) (m' : PM) (H1 : Heap) (locs1 : List Loc), Qp (.inl v) m' → vOKo v → World g m' H1 → va_S (gA g) s.heap H1 locs1 → W p (gl g) e R s mm args below meth cd H1 locs1 c n QQ (F0 mm (pc + 3) L ((v.map (pv g)).toList ++ rest))) :
    W p (gl g) e R s mm args below meth cd H locs c n QQ (F0 mm pc L st0) := by
  intro T hT X
  obtain ⟨v, st₀, t, T', L9, h0, X', hL, e1, e2, ⟨⟨u, m', hv, hp, hok, hw⟩, hz, hk⟩, st⟩ := hr T hT X
  cases hv
  rw [h0] at hz hk
  obtain ⟨t2, a1, b1⟩ := kk u m' T'.heap (locs ++ L9) hp hok (by rw [e1]; exact hw) ⟨Nat.le_trans hS.1 (by rw [e1]; exact hz), fun q h1 h2 => by rw [e1, hk q (Nat.lt_of_lt_of_le h1 hS.1) h2]; exact hS.2.1 q h1 h2, fun q hq => by
      rcases List.mem_append.mp hq with h | h
      · exact hS.2.2 q h
      · exact hL q h⟩ T' rfl X'
  exact ⟨t2, st t2 a1, b1⟩
theorem vAll_app : ∀ {a b : List PV}, vAll (a ++ b) → vAll a ∧ vAll b
  | [], _, h => ⟨trivial, h⟩
  | _ :: _, _, h => ⟨⟨h.1, (vAll_app h.2).1⟩, (vAll_app h.2).2⟩
theorem vAll_mk : ∀ {a b : List PV}, vAll a → vAll b → vAll (a ++ b)
  | [], _, _, h => h
  | _ :: _, _, h1, h2 => ⟨h1.1, vAll_mk h1.2 h2⟩
theorem vAll_rev : ∀ {a : List PV}, vAll a → vAll a.reverse
  | [], _ => trivial
  | v :: l, h => by
    rw [List.reverse_cons]
    exact vAll_mk (vAll_rev h.2) ⟨h.1, trivial⟩
def catS (st : List PV) : Nat := (st.map (fun v => if two (some v) then 2 else 1)).sum
theorem catS_le {st : List PV} (h : catS st ≤ 8) : ((st.map (pv g)).map fun v => v.category).sum ≤ 8 := by
  have e : (st.map (pv g)).map (fun v => v.category) = st.map (fun v => if two (some v) then 2 else 1) := by
    rw [List.map_map]
    refine List.map_congr_left fun v _ => ?_
    rcases v with x | x | x | x <;> simp [pv, Value.category, two]
  rw [e]
  exact h
theorem vo_list {v : Option PV} : (v.map (pv g)).toList ++ st.map (pv g) = (v.toList ++ st).map (pv g) := by cases v <;> rfl
theorem vo_all {v : Option PV} (h : vOKo v) (h2 : vAll st) : vAll (v.toList ++ st) := by
  cases v with
  | none => exact h2
  | some v => exact ⟨h, h2⟩
/-- the class of an object's kind -/
def clN (t : Nat) : String := if t = 0 then RX1 else if t = 4 then RX3 else if t = 5 then RX0 else if t = 10 then RX4 else if t = 12 then RX2 else ""
theorem clN_ok {t : Nat} {C : String} (h : clN t = C) (hC : C ≠ "") : ∃ T N, vwCl[cix t]? = some (C, T, N) ∧ ark t = none ∧ t < 41 := by
  subst h
  by_cases h0 : t = 0; · subst h0; exact ⟨TX1, 10, rfl, rfl, by decide⟩
  by_cases h4 : t = 4; · subst h4; exact ⟨TX3, 9, rfl, rfl, by decide⟩
  by_cases h5 : t = 5; · subst h5; exact ⟨TX0, 3, rfl, rfl, by decide⟩
  by_cases h10 : t = 10; · subst h10; exact ⟨TX4, 5, rfl, rfl, by decide⟩
  by_cases h12 : t = 12; · subst h12; exact ⟨TX2, 7, rfl, rfl, by decide⟩
  exact absurd (by unfold clN; rw [if_neg h0, if_neg h4, if_neg h5, if_neg h10, if_neg h12]) hC
/-- a call of a method of an object's own class, by its name -/
theorem Wq.callV {y : MethodName} {M' : MD} {idx t r j k : Nat} {As : List PV} {f : Option PV → PM → Prop} (hd : decode M.2.1 pc = .ok (.invokevirtual idx, 3)) (hM : MFv y M' k) (hl0 : Cond.methodLink M.1 idx y ∈ gTbl) (ht : clN t = y.cls) (hne : y.cls ≠ "") (hn : As.length = k) (hlen : (argL (pO t r j :: As)).length ≤ M'.2.2.1) (hrest : catS st ≤ 8)
    (q : Wp g d M' 0 (argL (pO t r j :: As)) [] m (kQ f)) (kk : ∀ v m', f v m' → Wq g (d + 1) M c n (pc + 3) ls (v.toList ++ st) m' Q) : Wq g (d + 1) M c n pc ls (As.reverse ++ pO t r j :: st) m Q := by
  intro p e R s mm args below meth cd H locs L QQ F hf hl hr hw hL hst hls hS hk
  obtain ⟨h1, h2, h3, h4, h5, h6, h7, h8⟩ := hM
  obtain ⟨hAr, hO⟩ := vAll_app hst
  have hAs : vAll As := by have := vAll_rev hAr; rwa [List.reverse_reverse] at this
  obtain ⟨T, N, hc, hark, h41⟩ := clN_ok ht hne
  obtain ⟨q0, hq⟩ := trip_ix (trip_of hO.1 h41)
  have he : (cells g m)[q0]? = some (ga g t r j, .inr (cix t, obv g m (t, r, j))) := by
    rw [cells_at hq]
    unfold cellE
    rw [show ark (t, r, j).1 = none from hark]
  have hG : GoodIn gTbl (wsV M.1 idx y.cls y (Cond.code y M'.2.1 M'.2.2.1 M'.2.2.2.1 :: gTbl)) := fun w hw => by
    have : w ∈ gTbl := by
      unfold wsV at hw
      simp only [List.cons_append, List.nil_append, List.mem_cons] at hw
      rcases hw with rfl | rfl | rfl | rfl | rfl | hw
      · exact hl0
      · exact h7
      · exact h8
      · exact h4
      · exact h3
      · exact hw
    exact gTbl_good w this
  have hMet : Met (gl g) y (Cond.code y M'.2.1 M'.2.2.1 M'.2.2.2.1 :: gTbl) (rmD d) (PcM g (pO t r j :: As) m) (QcM g (kQ f)) 0 0 (gA g) := met_of h1 h2 hlen ⟨hO.1, hAs⟩ (fun _ _ h => h) q
  have hcw := cwV (R := R) (s := s) (args := args) (mc := 0) (ms := 0) (rm := rmD d) k F.2.2.2.2.1 hG rfl rfl rfl ⟨rfl, h5⟩ ⟨hf, by show 8 + (M'.2.2.1 + 11) + 33 * d ≤ R.locals; omega⟩
  have hrun := va_runV (p := p) (l := gl g) (e := e) (below := below) (meth := meth) (H := H) (locs := locs) (cells := R.cells - c) (slots := R.slots - n) (g := F0 mm pc L ((As.reverse ++ pO t r j :: st).map (pv g))) (As := As.map (pv g)) (b := ga g t r j) (rest := st.map (pv g)) ⟨F.1, F.2.1, F.2.2.1, F.2.2.2.1, F.2.2.2.2.1⟩ hMet hcw
    ⟨PcM_blind _ _, ht ▸ va_recv F.2.2.2.2.2.1.2.1 hw (ht ▸ hc) he, fun U hU hW => ⟨rfl, by rw [hU]; exact hw, F.2.2.2.2.2.1.to hS hU hW⟩⟩ rfl (by rw [List.length_map]; exact hn) hL.1 (by simp [List.map_append, List.map_reverse, pv]) (lv_room (catS_le hrest)) hd ⟨Nat.sub_le _ _, Nat.sub_le _ _⟩
  refine after_run hrun hS (fun v m' H1 locs1 hQp hok hw1 hS1 => ?_)
  rw [vo_list]
  exact kk v m' hQp p e R s mm args below meth cd H1 locs1 L QQ F hf hl hr hw1 hL (vo_all hok hO.2) hls hS1 hk
/-- a static call -/
theorem Wq.callS {y : MethodName} {M' : MD} {idx k : Nat} {As : List PV} {f : Option PV → PM → Prop} (hd : decode M.2.1 pc = .ok (.invokestatic idx, 3)) (hM : MFs y M' k) (hl0 : Cond.methodLink M.1 idx y ∈ gTbl) (hn : As.length = k) (hlen : (argL As).length ≤ M'.2.2.1) (hrest : catS st ≤ 8)
    (q : Wp g d M' 0 (argL As) [] m (kQ f)) (kk : ∀ v m', f v m' → Wq g (d + 1) M c n (pc + 3) ls (v.toList ++ st) m' Q) : Wq g (d + 1) M c n pc ls (As.reverse ++ st) m Q := by
  intro p e R s mm args below meth cd H locs L QQ F hf hl hr hw hL hst hls hS hk
  obtain ⟨h1, h2, h3, h4, h5, h6, h7⟩ := hM
  obtain ⟨hAr, hO⟩ := vAll_app hst
  have hAs : vAll As := by have := vAll_rev hAr; rwa [List.reverse_reverse] at this
  have hG : GoodIn gTbl (va_wsS M.1 idx y (Cond.code y M'.2.1 M'.2.2.1 M'.2.2.2.1 :: gTbl)) := fun w hw => by
    have : w ∈ gTbl := by
      unfold va_wsS at hw
      simp only [List.cons_append, List.nil_append, List.mem_cons] at hw
      rcases hw with rfl | rfl | rfl | rfl | hw
      · exact hl0
      · exact h7
      · exact h4
      · exact h3
      · exact hw
    exact gTbl_good w this
  have hMet : Met (gl g) y (Cond.code y M'.2.1 M'.2.2.1 M'.2.2.2.1 :: gTbl) (rmD d) (PcM g As m) (QcM g (kQ f)) 0 0 (gA g) := met_of h1 h2 hlen hAs (fun _ _ h => h) q
  have hcw := va_cwS (R := R) (s := s) (args := args) (mc := 0) (ms := 0) (rm := rmD d) k F.2.2.2.2.1 hG rfl rfl rfl h5 ⟨hf, by show 8 + (M'.2.2.1 + 11) + 33 * d ≤ R.locals; omega⟩
  have hrun := va_runS (p := p) (l := gl g) (e := e) (below := below) (meth := meth) (H := H) (locs := locs) (cells := R.cells - c) (slots := R.slots - n) (g := F0 mm pc L ((As.reverse ++ st).map (pv g))) (As := As.map (pv g)) (rest := st.map (pv g)) ⟨F.1, F.2.1, F.2.2.1, F.2.2.2.1, F.2.2.2.2.1⟩ hMet hcw
    ⟨PcM_blind _ _, fun U hU hW => ⟨rfl, by rw [hU]; exact hw, F.2.2.2.2.2.1.to hS hU hW⟩⟩ rfl (by rw [List.length_map]; exact hn) hL.1 (by simp [List.map_append, List.map_reverse]) (lv_room (catS_le hrest)) hd ⟨Nat.sub_le _ _, Nat.sub_le _ _⟩
  refine after_run hrun hS (fun v m' H1 locs1 hQp hok hw1 hS1 => ?_)
  rw [vo_list]
  exact kk v m' hQp p e R s mm args below meth cd H1 locs1 L QQ F hf hl hr hw1 hL (vo_all hok hO) hls hS1 hk
/-- a static call of a nest mate's own method -/
theorem Wq.callN {y : MethodName} {M' : MD} {idx k : Nat} {As : List PV} {f : Option PV → PM → Prop} (hd : decode M.2.1 pc = .ok (.invokestatic idx, 3)) (hM : MFs y M' k) (hl0 : (M.1, idx, y) ∈ nestW) (hn : As.length = k) (hlen : (argL As).length ≤ M'.2.2.1) (hrest : catS st ≤ 8)
    (q : Wp g d M' 0 (argL As) [] m (kQ f)) (kk : ∀ v m', f v m' → Wq g (d + 1) M c n (pc + 3) ls (v.toList ++ st) m' Q) : Wq g (d + 1) M c n pc ls (As.reverse ++ st) m Q := by
  intro p e R s mm args below meth cd H locs L QQ F hf hl hr hw hL hst hls hS hk
  obtain ⟨h1, h2, h3, h4, h5, h6, h7⟩ := hM
  obtain ⟨hAr, hO⟩ := vAll_app hst
  have hAs : vAll As := by have := vAll_rev hAr; rwa [List.reverse_reverse] at this
  have hG : GoodIn gTbl (Cond.code y M'.2.1 M'.2.2.1 M'.2.2.2.1 :: gTbl) := fun w hw => by
    rcases List.mem_cons.mp hw with rfl | hw
    · exact gTbl_good _ h3
    · exact gTbl_good _ hw
  have hMet : Met (gl g) y (Cond.code y M'.2.1 M'.2.2.1 M'.2.2.2.1 :: gTbl) (rmD d) (PcM g As m) (QcM g (kQ f)) 0 0 (gA g) := met_of h1 h2 hlen hAs (fun _ _ h => h) q
  have hcw := va_cnB (R := R) (s := s) (args := args) (mc := 0) (ms := 0) (rm := rmD d) k F.2.2.2.2.1 hG rfl rfl rfl (F.2.2.2.2.2.1.2.2.1.2.2.2.2.2.2.2.1 _ hl0) (F.2.2.2.2.1 _ h4) h5 ⟨hf, by show 8 + (M'.2.2.1 + 11) + 33 * d ≤ R.locals; omega⟩
  have hrun := va_runSN (p := p) (l := gl g) (e := e) (below := below) (meth := meth) (H := H) (locs := locs) (cells := R.cells - c) (slots := R.slots - n) (g := F0 mm pc L ((As.reverse ++ st).map (pv g))) (As := As.map (pv g)) (rest := st.map (pv g)) ⟨F.1, F.2.1, F.2.2.1, F.2.2.2.1, F.2.2.2.2.1⟩ hMet ⟨hcw, F.2.2.2.2.1 _ h7, trivial⟩
    ⟨PcM_blind _ _, fun U hU hW => ⟨rfl, by rw [hU]; exact hw, F.2.2.2.2.2.1.to hS hU hW⟩⟩ rfl (by rw [List.length_map]; exact hn) hL.1 (by simp [List.map_append, List.map_reverse]) (lv_room (catS_le hrest)) hd ⟨Nat.sub_le _ _, Nat.sub_le _ _⟩
  refine after_run hrun hS (fun v m' H1 locs1 hQp hok hw1 hS1 => ?_)
  rw [vo_list]
  exact kk v m' hQp p e R s mm args below meth cd H1 locs1 L QQ F hf hl hr hw1 hL (vo_all hok hO) hls hS1 hk
end RC
end
section
/-! STATICS, ROWS THAT ARE ONLY READ, THE JDK'S ROWS, and calls by the kind of their answer -/
section RS
variable {g : GG} {d : Nat} {M : MD} {c n pc : Nat} {ls : List (Option PV)} {st : List PV} {m : PM} {Q : Ou → PM → Nat → Nat → Prop}
theorem rin (z : Nat × Nat × Nat) (h : z ∈ rtrip) : z ∈ trip ++ rtrip := List.mem_append_right _ h
theorem Wq.getsF {idx : Nat} (hd : decode M.2.1 pc = .ok (.getstatic idx, 3)) (hl0 : Cond.fieldLink M.1 idx "TestSlots" "FIRST_SETTINGS" "[I" ∈ gTbl) (q : Wq g d M c n (pc + 3) ls (pO 42 10 0 :: st) m Q) : Wq g d M c n pc ls st m Q := by
  intro p e R s mm args below meth cd H locs L QQ F hf hl hr hw hL hst hls hS hk
  refine va_gets F.1 F.2.1 F.2.2.2.2.2.1.2.2.1.2.1.2 hS F.2.2.2.1 (F.2.2.2.2.1 _ hl0) (fun _ h => h) hd ?_
  exact q p e R s mm args below meth cd H locs L QQ F hf hl hr hw hL ⟨rin _ (by decide), hst⟩ hls hS hk
theorem Wq.getsH {idx : Nat} (hd : decode M.2.1 pc = .ok (.getstatic idx, 3)) (hl0 : Cond.fieldLink M.1 idx "TestSlots" "HIGHEST_SETTINGS" "[I" ∈ gTbl) (q : Wq g d M c n (pc + 3) ls (pO 43 10 0 :: st) m Q) : Wq g d M c n pc ls st m Q := by
  intro p e R s mm args below meth cd H locs L QQ F hf hl hr hw hL hst hls hS hk
  refine va_gets F.1 F.2.1 F.2.2.2.2.2.1.2.2.1.2.2.1.2 hS F.2.2.2.1 (F.2.2.2.2.1 _ hl0) (fun _ h => h) hd ?_
  exact q p e R s mm args below meth cd H locs L QQ F hf hl hr hw hL ⟨rin _ (by decide), hst⟩ hls hS hk
theorem Wq.lenF (hd : decode M.2.1 pc = .ok (.arraylength, 1)) (q : Wq g d M c n (pc + 1) ls (pI 4 :: st) m Q) : Wq g d M c n pc ls (pO 42 10 0 :: st) m Q := by
  intro p e R s mm args below meth cd H locs L QQ F hf hl hr hw hL hst hls hS hk
  refine va_tlen (v := 4) F.1 F.2.1 F.2.2.2.2.2.1.2.2.1.2.1.1 hS rfl hd ?_
  exact q p e R s mm args below meth cd H locs L QQ F hf hl hr hw hL ⟨trivial, hst.2⟩ hls hS hk
theorem Wq.ialdH {i : Int32} (hd : decode M.2.1 pc = .ok (.iaload, 1)) (hi : vp_in i 4) (q : Wq g d M c n (pc + 1) ls (pI (([20, 1, 9, 999] : List Int32).getD (ix i) 0) :: st) m Q) : Wq g d M c n pc ls (pI i :: pO 43 10 0 :: st) m Q := by
  intro p e R s mm args below meth cd H locs L QQ F hf hl hr hw hL hst hls hS hk
  refine va_ti (v := .int (([20, 1, 9, 999] : List Int32).getD (ix i) 0)) F.1 F.2.1 F.2.2.2.2.2.1.2.2.1.2.2.1.1 hS hi rfl hd ?_
  exact q p e R s mm args below meth cd H locs L QQ F hf hl hr hw hL ⟨trivial, hst.2.2⟩ hls hS hk
theorem Wq.lenS (hd : decode M.2.1 pc = .ok (.arraylength, 1)) (q : Wq g d M c n (pc + 1) ls (pI (nI (gL g)) :: st) m Q) : Wq g d M c n pc ls (pO 41 10 0 :: st) m Q := by
  intro p e R s mm args below meth cd H locs L QQ F hf hl hr hw hL hst hls hS hk
  have hX := F.2.2.2.2.2.1.2.2.1.1
  refine va_slen F.1 F.2.1 hX.1 (Nat.lt_of_lt_of_le hX.2 F.2.2.2.2.2.1.1) (Nat.not_le.mpr hX.2) hS hd ?_
  exact q p e R s mm args below meth cd H locs L QQ F hf hl hr hw hL ⟨trivial, hst.2⟩ hls hS hk
theorem Wq.ialdS {i : Int32} (hd : decode M.2.1 pc = .ok (.iaload, 1)) (hi : vp_in i (gL g)) (q : Wq g d M c n (pc + 1) ls (pI (gx g (ix i)) :: st) m Q) : Wq g d M c n pc ls (pI i :: pO 41 10 0 :: st) m Q := by
  intro p e R s mm args below meth cd H locs L QQ F hf hl hr hw hL hst hls hS hk
  have hX := F.2.2.2.2.2.1.2.2.1.1
  refine va_sld F.1 F.2.1 hX.1 (Nat.lt_of_lt_of_le hX.2 F.2.2.2.2.2.1.1) (Nat.not_le.mpr hX.2) hS hi hd ?_
  exact q p e R s mm args below meth cd H locs L QQ F hf hl hr hw hL ⟨trivial, hst.2.2⟩ hls hS hk
/-- System.arraycopy of ints -/
theorem Wq.copy {idx t r j t' r' j' n0 n1 : Nat} {sp dp k : Int32} (hd : decode M.2.1 pc = .ok (.invokestatic idx, 3)) (hl0 : Cond.methodLink M.1 idx arraycopyName ∈ gTbl) (hw0 : Cond.native arraycopyName ∈ gTbl ∧ Cond.static arraycopyName ∈ gTbl ∧ Cond.initialized "java/lang/System" ∈ gTbl) (ha : ark t = some (0, n0)) (ha' : ark t' = some (0, n1)) (h1 : ¬ sp < 0) (h2 : ¬ dp < 0) (h3 : ¬ k < 0) (h4 : ix sp + ix k ≤ n0) (h5 : ix dp + ix k ≤ n1) (hrest : catS st ≤ 8)
    (q : Wq g (d + 1) M c n (pc + 3) ls st (setR m t' r' j' (va_cpy (m.1 r t j) (m.1 r' t' j') (ix sp) (ix dp) (ix k))) Q) : Wq g (d + 1) M c n pc ls (pI k :: pI dp :: pO t' r' j' :: pI sp :: pO t r j :: st) m Q := by
  intro p e R s mm args below meth cd H locs L QQ F hf hl hr hw hL hst hls hS hk
  obtain ⟨q0, -, hq⟩ := row_at (g := g) (m := m) ha (trip_of hst.2.2.2.2.1 (ark_lt ha))
  obtain ⟨q1, hq1, hq'⟩ := row_at (g := g) (m := m) ha' (trip_of hst.2.2.1 (ark_lt ha'))
  have hc8 := catS_le (g := g) hrest
  refine va_copyi (f := m.1 r t j) (g := m.1 r' t' j') F.1 F.2.1 (F.2.2.1.trans hL.1.symm) F.2.2.2.1 (F.2.2.2.2.1 _ hl0) (F.2.2.2.2.1 _ hw0.1) (F.2.2.2.2.1 _ hw0.2.1) (F.2.2.2.2.1 _ hw0.2.2) F.2.2.2.2.2.1.2.1 hw (F.2.2.2.2.2.1.2.2.2.1 m) hS q0 q1 0 0 hq hq' rfl rfl rfl h1 h2 h3 h4 h5 (fun _ _ => rfl) (Nat.le_trans (Nat.le_add_left 1 d) hf) (Nat.le_trans (Nat.add_le_add_right hc8 _) (Nat.le_trans (by decide : 8 + (nativeFrameWords "java/lang/System" "arraycopy" 5 + 11) ≤ 33) (Nat.le_trans (by omega : 33 ≤ 33 * (d + 1)) hl))) hd (fun H1 locs1 hP1 _ hS1 => ?_)
  have h11 : t' ≠ 11 := fun e => by subst e; exact absurd ha' (by simp [ark])
  have hw1 := World_set (g := g) (m := m) (m' := setR m t' r' j' (va_cpy (m.1 r t j) (m.1 r' t' j') (ix sp) (ix dp) (ix k))) (e := .inl (gc g 0, n1, .inl (va_cpy (m.1 r t j) (m.1 r' t' j') (ix sp) (ix dp) (ix k)))) hq1 hP1 (by rw [cellE_row ha']; show Sum.inl (_, _, Sum.inl ((setR m t' r' j' _).1 r' t' j')) = _; rw [setR_s]) (fun z' hz' hne => kept_setR (Or.inl h11) hz' hne)
  exact q p e R s mm args below meth cd H1 locs1 L QQ F hf hl hr hw1 hL hst.2.2.2.2.2 hls hS1 hk
/-- Math.min of ints -/
theorem Wq.mmin {idx : Nat} {x y : Int32} (hd : decode M.2.1 pc = .ok (.invokestatic idx, 3)) (hl0 : Cond.methodLink M.1 idx Lib.Math.min.name ∈ gTbl) (hw0 : Cond.static Lib.Math.min.name ∈ gTbl ∧ Cond.initialized "java/lang/Math" ∈ gTbl ∧ Cond.code Lib.Math.min.name Lib.Math.min.code 2 (some .int) ∈ gTbl) (hrest : catS st ≤ 8)
    (q : Wq g (d + 1) M c n (pc + 3) ls (pI (if y < x then y else x) :: st) m Q) : Wq g (d + 1) M c n pc ls (pI y :: pI x :: st) m Q := by
  intro p e R s mm args below meth cd H locs L QQ F hf hl hr hw hL hst hls hS hk
  have hc8 := catS_le (g := g) hrest
  refine va_mmin F.1 F.2.1 (F.2.2.1.trans hL.1.symm) F.2.2.2.1 (F.2.2.2.2.1 _ hl0) (F.2.2.2.2.1 _ hw0.1) (F.2.2.2.2.1 _ hw0.2.1) (F.2.2.2.2.1 _ hw0.2.2) (Nat.le_trans (Nat.le_add_left 1 d) hf) (by omega) (Nat.sub_le _ _) (Nat.sub_le _ _) hd ?_
  exact q p e R s mm args below meth cd H locs L QQ F hf hl hr hw hL ⟨trivial, hst.2.2⟩ hls hS hk
/-- calls by the kind of their answer -/
theorem kQ_of {Qp : Ou → PM → Prop} {f : Option PV → PM → Prop} {ls' : List (Option PV)} {M' : MD} {m0 : PM} (h : ∀ o m', Qp o m' → ∃ v, o = .inl v ∧ f v m') (q : Wp g d M' 0 ls' [] m0 Qp) : Wp g d M' 0 ls' [] m0 (kQ f) := q.mono (fun o m' c' n' hq => ⟨hq.1, hq.2.1, by obtain ⟨v, rfl, hv⟩ := h o m' hq.2.2; exact hv⟩)
theorem cI_of {f : Int32 → PM → Prop} : ∀ o m', cI f o m' → ∃ v, o = .inl v ∧ ∃ x, v = some (pI x) ∧ f x m'
  | .inl (some (.inl x)), _, h => ⟨_, rfl, x, rfl, h⟩
theorem cL_of {f : Int64 → PM → Prop} : ∀ o m', cL f o m' → ∃ v, o = .inl v ∧ ∃ x, v = some (pL x) ∧ f x m'
  | .inl (some (.inr (.inl x))), _, h => ⟨_, rfl, x, rfl, h⟩
theorem cD_of {f : UInt64 → PM → Prop} : ∀ o m', cD f o m' → ∃ v, o = .inl v ∧ ∃ x, v = some (pD x) ∧ f x m'
  | .inl (some (.inr (.inr (.inl x)))), _, h => ⟨_, rfl, x, rfl, h⟩
theorem cO_of {f : Nat → Nat → Nat → PM → Prop} : ∀ o m', cO f o m' → ∃ v, o = .inl v ∧ ∃ t r j, v = some (pO t r j) ∧ f t r j m'
  | .inl (some (.inr (.inr (.inr (t, r, j))))), _, h => ⟨_, rfl, t, r, j, rfl, h⟩
theorem cV_of {f : PM → Prop} : ∀ o m', cV f o m' → ∃ v, o = .inl v ∧ v = none ∧ f m'
  | .inl none, _, h => ⟨_, rfl, rfl, h⟩
theorem Wq.callVI {y : MethodName} {M' : MD} {idx t r j k : Nat} {As : List PV} {f : Int32 → PM → Prop} (hd : decode M.2.1 pc = .ok (.invokevirtual idx, 3)) (hM : MFv y M' k) (hl0 : Cond.methodLink M.1 idx y ∈ gTbl) (ht : clN t = y.cls) (hne : y.cls ≠ "") (hn : As.length = k) (hlen : (argL (pO t r j :: As)).length ≤ M'.2.2.1) (hrest : catS st ≤ 8) (q : Wp g d M' 0 (argL (pO t r j :: As)) [] m (cI f)) (kk : ∀ x m', f x m' → Wq g (d + 1) M c n (pc + 3) ls (pI x :: st) m' Q) : Wq g (d + 1) M c n pc ls (As.reverse ++ pO t r j :: st) m Q := Wq.callV (f := fun v m' => ∃ x, v = some (pI x) ∧ f x m') hd hM hl0 ht hne hn hlen hrest (kQ_of cI_of q) (fun v m' ⟨x, e, h⟩ => by subst e; exact kk x m' h)
theorem Wq.callVL {y : MethodName} {M' : MD} {idx t r j k : Nat} {As : List PV} {f : Int64 → PM → Prop} (hd : decode M.2.1 pc = .ok (.invokevirtual idx, 3)) (hM : MFv y M' k) (hl0 : Cond.methodLink M.1 idx y ∈ gTbl) (ht : clN t = y.cls) (hne : y.cls ≠ "") (hn : As.length = k) (hlen : (argL (pO t r j :: As)).length ≤ M'.2.2.1) (hrest : catS st ≤ 8) (q : Wp g d M' 0 (argL (pO t r j :: As)) [] m (cL f)) (kk : ∀ x m', f x m' → Wq g (d + 1) M c n (pc + 3) ls (pL x :: st) m' Q) : Wq g (d + 1) M c n pc ls (As.reverse ++ pO t r j :: st) m Q := Wq.callV (f := fun v m' => ∃ x, v = some (pL x) ∧ f x m') hd hM hl0 ht hne hn hlen hrest (kQ_of cL_of q) (fun v m' ⟨x, e, h⟩ => by subst e; exact kk x m' h)
theorem Wq.callVD {y : MethodName} {M' : MD} {idx t r j k : Nat} {As : List PV} {f : UInt64 → PM → Prop} (hd : decode M.2.1 pc = .ok (.invokevirtual idx, 3)) (hM : MFv y M' k) (hl0 : Cond.methodLink M.1 idx y ∈ gTbl) (ht : clN t = y.cls) (hne : y.cls ≠ "") (hn : As.length = k) (hlen : (argL (pO t r j :: As)).length ≤ M'.2.2.1) (hrest : catS st ≤ 8) (q : Wp g d M' 0 (argL (pO t r j :: As)) [] m (cD f)) (kk : ∀ x m', f x m' → Wq g (d + 1) M c n (pc + 3) ls (pD x :: st) m' Q) : Wq g (d + 1) M c n pc ls (As.reverse ++ pO t r j :: st) m Q := Wq.callV (f := fun v m' => ∃ x, v = some (pD x) ∧ f x m') hd hM hl0 ht hne hn hlen hrest (kQ_of cD_of q) (fun v m' ⟨x, e, h⟩ => by subst e; exact kk x m' h)
theorem Wq.callVV {y : MethodName} {M' : MD} {idx t r j k : Nat} {As : List PV} {f : PM → Prop} (hd : decode M.2.1 pc = .ok (.invokevirtual idx, 3)) (hM : MFv y M' k) (hl0 : Cond.methodLink M.1 idx y ∈ gTbl) (ht : clN t = y.cls) (hne : y.cls ≠ "") (hn : As.length = k) (hlen : (argL (pO t r j :: As)).length ≤ M'.2.2.1) (hrest : catS st ≤ 8) (q : Wp g d M' 0 (argL (pO t r j :: As)) [] m (cV f)) (kk : ∀ m', f m' → Wq g (d + 1) M c n (pc + 3) ls st m' Q) : Wq g (d + 1) M c n pc ls (As.reverse ++ pO t r j :: st) m Q := Wq.callV (f := fun v m' => v = none ∧ f m') hd hM hl0 ht hne hn hlen hrest (kQ_of cV_of q) (fun v m' ⟨e, h⟩ => by subst e; exact kk m' h)
theorem Wq.callVO {y : MethodName} {M' : MD} {idx t r j k : Nat} {As : List PV} {f : Nat → Nat → Nat → PM → Prop} (hd : decode M.2.1 pc = .ok (.invokevirtual idx, 3)) (hM : MFv y M' k) (hl0 : Cond.methodLink M.1 idx y ∈ gTbl) (ht : clN t = y.cls) (hne : y.cls ≠ "") (hn : As.length = k) (hlen : (argL (pO t r j :: As)).length ≤ M'.2.2.1) (hrest : catS st ≤ 8) (q : Wp g d M' 0 (argL (pO t r j :: As)) [] m (cO f)) (kk : ∀ t r j m', f t r j m' → Wq g (d + 1) M c n (pc + 3) ls (pO t r j :: st) m' Q) : Wq g (d + 1) M c n pc ls (As.reverse ++ pO t r j :: st) m Q := Wq.callV (f := fun v m' => ∃ t r j, v = some (pO t r j) ∧ f t r j m') hd hM hl0 ht hne hn hlen hrest (kQ_of cO_of q) (fun v m' ⟨t1, r1, j1, e, h⟩ => by subst e; exact kk t1 r1 j1 m' h)
theorem Wq.callSI {y : MethodName} {M' : MD} {idx k : Nat} {As : List PV} {f : Int32 → PM → Prop} (hd : decode M.2.1 pc = .ok (.invokestatic idx, 3)) (hM : MFs y M' k) (hl0 : Cond.methodLink M.1 idx y ∈ gTbl) (hn : As.length = k) (hlen : (argL As).length ≤ M'.2.2.1) (hrest : catS st ≤ 8) (q : Wp g d M' 0 (argL As) [] m (cI f)) (kk : ∀ x m', f x m' → Wq g (d + 1) M c n (pc + 3) ls (pI x :: st) m' Q) : Wq g (d + 1) M c n pc ls (As.reverse ++ st) m Q := Wq.callS (f := fun v m' => ∃ x, v = some (pI x) ∧ f x m') hd hM hl0 hn hlen hrest (kQ_of cI_of q) (fun v m' ⟨x, e, h⟩ => by subst e; exact kk x m' h)
theorem Wq.callSL {y : MethodName} {M' : MD} {idx k : Nat} {As : List PV} {f : Int64 → PM → Prop} (hd : decode M.2.1 pc = .ok (.invokestatic idx, 3)) (hM : MFs y M' k) (hl0 : Cond.methodLink M.1 idx y ∈ gTbl) (hn : As.length = k) (hlen : (argL As).length ≤ M'.2.2.1) (hrest : catS st ≤ 8) (q : Wp g d M' 0 (argL As) [] m (cL f)) (kk : ∀ x m', f x m' → Wq g (d + 1) M c n (pc + 3) ls (pL x :: st) m' Q) : Wq g (d + 1) M c n pc ls (As.reverse ++ st) m Q := Wq.callS (f := fun v m' => ∃ x, v = some (pL x) ∧ f x m') hd hM hl0 hn hlen hrest (kQ_of cL_of q) (fun v m' ⟨x, e, h⟩ => by subst e; exact kk x m' h)
theorem Wq.callSD {y : MethodName} {M' : MD} {idx k : Nat} {As : List PV} {f : UInt64 → PM → Prop} (hd : decode M.2.1 pc = .ok (.invokestatic idx, 3)) (hM : MFs y M' k) (hl0 : Cond.methodLink M.1 idx y ∈ gTbl) (hn : As.length = k) (hlen : (argL As).length ≤ M'.2.2.1) (hrest : catS st ≤ 8) (q : Wp g d M' 0 (argL As) [] m (cD f)) (kk : ∀ x m', f x m' → Wq g (d + 1) M c n (pc + 3) ls (pD x :: st) m' Q) : Wq g (d + 1) M c n pc ls (As.reverse ++ st) m Q := Wq.callS (f := fun v m' => ∃ x, v = some (pD x) ∧ f x m') hd hM hl0 hn hlen hrest (kQ_of cD_of q) (fun v m' ⟨x, e, h⟩ => by subst e; exact kk x m' h)
theorem Wq.callSV {y : MethodName} {M' : MD} {idx k : Nat} {As : List PV} {f : PM → Prop} (hd : decode M.2.1 pc = .ok (.invokestatic idx, 3)) (hM : MFs y M' k) (hl0 : Cond.methodLink M.1 idx y ∈ gTbl) (hn : As.length = k) (hlen : (argL As).length ≤ M'.2.2.1) (hrest : catS st ≤ 8) (q : Wp g d M' 0 (argL As) [] m (cV f)) (kk : ∀ m', f m' → Wq g (d + 1) M c n (pc + 3) ls st m' Q) : Wq g (d + 1) M c n pc ls (As.reverse ++ st) m Q := Wq.callS (f := fun v m' => v = none ∧ f m') hd hM hl0 hn hlen hrest (kQ_of cV_of q) (fun v m' ⟨e, h⟩ => by subst e; exact kk m' h)
theorem Wq.callSO {y : MethodName} {M' : MD} {idx k : Nat} {As : List PV} {f : Nat → Nat → Nat → PM → Prop} (hd : decode M.2.1 pc = .ok (.invokestatic idx, 3)) (hM : MFs y M' k) (hl0 : Cond.methodLink M.1 idx y ∈ gTbl) (hn : As.length = k) (hlen : (argL As).length ≤ M'.2.2.1) (hrest : catS st ≤ 8) (q : Wp g d M' 0 (argL As) [] m (cO f)) (kk : ∀ t r j m', f t r j m' → Wq g (d + 1) M c n (pc + 3) ls (pO t r j :: st) m' Q) : Wq g (d + 1) M c n pc ls (As.reverse ++ st) m Q := Wq.callS (f := fun v m' => ∃ t r j, v = some (pO t r j) ∧ f t r j m') hd hM hl0 hn hlen hrest (kQ_of cO_of q) (fun v m' ⟨t1, r1, j1, e, h⟩ => by subst e; exact kk t1 r1 j1 m' h)
theorem Wq.callNI {y : MethodName} {M' : MD} {idx k : Nat} {As : List PV} {f : Int32 → PM → Prop} (hd : decode M.2.1 pc = .ok (.invokestatic idx, 3)) (hM : MFs y M' k) (hl0 : (M.1, idx, y) ∈ nestW) (hn : As.length = k) (hlen : (argL As).length ≤ M'.2.2.1) (hrest : catS st ≤ 8) (q : Wp g d M' 0 (argL As) [] m (cI f)) (kk : ∀ x m', f x m' → Wq g (d + 1) M c n (pc + 3) ls (pI x :: st) m' Q) : Wq g (d + 1) M c n pc ls (As.reverse ++ st) m Q := Wq.callN (f := fun v m' => ∃ x, v = some (pI x) ∧ f x m') hd hM hl0 hn hlen hrest (kQ_of cI_of q) (fun v m' ⟨x, e, h⟩ => by subst e; exact kk x m' h)
theorem Wq.callNL {y : MethodName} {M' : MD} {idx k : Nat} {As : List PV} {f : Int64 → PM → Prop} (hd : decode M.2.1 pc = .ok (.invokestatic idx, 3)) (hM : MFs y M' k) (hl0 : (M.1, idx, y) ∈ nestW) (hn : As.length = k) (hlen : (argL As).length ≤ M'.2.2.1) (hrest : catS st ≤ 8) (q : Wp g d M' 0 (argL As) [] m (cL f)) (kk : ∀ x m', f x m' → Wq g (d + 1) M c n (pc + 3) ls (pL x :: st) m' Q) : Wq g (d + 1) M c n pc ls (As.reverse ++ st) m Q := Wq.callN (f := fun v m' => ∃ x, v = some (pL x) ∧ f x m') hd hM hl0 hn hlen hrest (kQ_of cL_of q) (fun v m' ⟨x, e, h⟩ => by subst e; exact kk x m' h)
theorem Wq.callND {y : MethodName} {M' : MD} {idx k : Nat} {As : List PV} {f : UInt64 → PM → Prop} (hd : decode M.2.1 pc = .ok (.invokestatic idx, 3)) (hM : MFs y M' k) (hl0 : (M.1, idx, y) ∈ nestW) (hn : As.length = k) (hlen : (argL As).length ≤ M'.2.2.1) (hrest : catS st ≤ 8) (q : Wp g d M' 0 (argL As) [] m (cD f)) (kk : ∀ x m', f x m' → Wq g (d + 1) M c n (pc + 3) ls (pD x :: st) m' Q) : Wq g (d + 1) M c n pc ls (As.reverse ++ st) m Q := Wq.callN (f := fun v m' => ∃ x, v = some (pD x) ∧ f x m') hd hM hl0 hn hlen hrest (kQ_of cD_of q) (fun v m' ⟨x, e, h⟩ => by subst e; exact kk x m' h)
theorem Wq.callNV {y : MethodName} {M' : MD} {idx k : Nat} {As : List PV} {f : PM → Prop} (hd : decode M.2.1 pc = .ok (.invokestatic idx, 3)) (hM : MFs y M' k) (hl0 : (M.1, idx, y) ∈ nestW) (hn : As.length = k) (hlen : (argL As).length ≤ M'.2.2.1) (hrest : catS st ≤ 8) (q : Wp g d M' 0 (argL As) [] m (cV f)) (kk : ∀ m', f m' → Wq g (d + 1) M c n (pc + 3) ls st m' Q) : Wq g (d + 1) M c n pc ls (As.reverse ++ st) m Q := Wq.callN (f := fun v m' => v = none ∧ f m') hd hM hl0 hn hlen hrest (kQ_of cV_of q) (fun v m' ⟨e, h⟩ => by subst e; exact kk m' h)
theorem Wq.callNO {y : MethodName} {M' : MD} {idx k : Nat} {As : List PV} {f : Nat → Nat → Nat → PM → Prop} (hd : decode M.2.1 pc = .ok (.invokestatic idx, 3)) (hM : MFs y M' k) (hl0 : (M.1, idx, y) ∈ nestW) (hn : As.length = k) (hlen : (argL As).length ≤ M'.2.2.1) (hrest : catS st ≤ 8) (q : Wp g d M' 0 (argL As) [] m (cO f)) (kk : ∀ t r j m', f t r j m' → Wq g (d + 1) M c n (pc + 3) ls (pO t r j :: st) m' Q) : Wq g (d + 1) M c n pc ls (As.reverse ++ st) m Q := Wq.callN (f := fun v m' => ∃ t r j, v = some (pO t r j) ∧ f t r j m') hd hM hl0 hn hlen hrest (kQ_of cO_of q) (fun v m' ⟨t1, r1, j1, e, h⟩ => by subst e; exact kk t1 r1 j1 m' h)
end RS
end
section
/-! SMALL WORDS of the laid rows -/
def bI (P : Prop) [Decidable P] : Int32 := if P then 1 else 0
abbrev irm (x y : Int32) : Int32 := x - x / y * y
theorem bI_0 {P : Prop} [Decidable P] (h : bI P = 0) : ¬ P := fun p => by
  unfold bI at h
  rw [if_pos p] at h
  exact absurd h (by decide)
theorem bI_1 {P : Prop} [Decidable P] (h : ¬ bI P = 0) : P := by
  by_cases p : P
  · exact p
  · exact absurd (by unfold bI; rw [if_neg p]) h
theorem bI_t {P : Prop} [Decidable P] (h : P) : bI P = 1 := by unfold bI; rw [if_pos h]
theorem bI_f {P : Prop} [Decidable P] (h : ¬ P) : bI P = 0 := by unfold bI; rw [if_neg h]
theorem bI_z (P : Prop) [Decidable P] : bI P = 0 ∨ bI P = 1 := by
  by_cases p : P
  · exact Or.inr (by unfold bI; rw [if_pos p])
  · exact Or.inl (by unfold bI; rw [if_neg p])
theorem z_narrow {x : Int32} (h : x = 0 ∨ x = 1) : narrow .boolean (.int x) = .int x := by
  rcases h with e | e <;> subst e <;> decide
theorem z_fits {x : Int32} (h : x = 0 ∨ x = 1) : fits .boolean (.int x) = true := by
  rcases h with e | e <;> subst e <;> decide
theorem bI_narrow (P : Prop) [Decidable P] : narrow .boolean (.int (bI P)) = .int (bI P) := z_narrow (bI_z P)
theorem bI_fits (P : Prop) [Decidable P] : fits .boolean (.int (bI P)) = true := z_fits (bI_z P)
theorem sw_core {x : Int32} {n : Nat} (hn : n < 2 ^ 31) (h : ∀ k, k < n → ¬ x = nI k) : x.toInt < 0 ∨ (n : Int) - 1 < x.toInt := by
  by_cases h0 : x.toInt < 0
  · exact Or.inl h0
  · right
    rcases Int.lt_or_le ((n : Int) - 1) x.toInt with q | q
    · exact q
    · refine absurd (Int32.toInt_inj.mp ?_) (h x.toInt.toNat (by omega))
      rw [nI_toInt (by omega)]
      omega
section RH
variable {g : GG} {d : Nat} {M : MD} {pc : Nat} {ls : List (Option PV)} {m : PM}
theorem Wq.iretI {f : Int32 → PM → Prop} {x : Int32} (hd : decode M.2.1 pc = .ok (.ireturn, 1)) (hn : ∃ rt, M.2.2.2.1 = some rt ∧ narrow rt (.int x) = .int x) (q : f x m) : Wq g d M 0 0 pc ls [pI x] m (fun o m' c n => c = 0 ∧ n = 0 ∧ cI f o m') := Wq.iret hd hn ⟨rfl, rfl, q⟩
theorem Wq.lretL {f : Int64 → PM → Prop} {x : Int64} (hd : decode M.2.1 pc = .ok (.lreturn, 1)) (hn : M.2.2.2.1 = some .long) (q : f x m) : Wq g d M 0 0 pc ls [pL x] m (fun o m' c n => c = 0 ∧ n = 0 ∧ cL f o m') := Wq.lret hd hn ⟨rfl, rfl, q⟩
theorem Wq.vretV {f : PM → Prop} (hd : decode M.2.1 pc = .ok (.return_, 1)) (hn : M.2.2.2.1 = none) (q : f m) : Wq g d M 0 0 pc ls [] m (fun o m' c n => c = 0 ∧ n = 0 ∧ cV f o m') := Wq.vret hd hn ⟨rfl, rfl, q⟩
theorem Wq.aretO {f : Nat → Nat → Nat → PM → Prop} {t r j : Nat} (hd : decode M.2.1 pc = .ok (.areturn, 1)) (hn : ∃ n, M.2.2.2.1 = some (.object n)) (q : f t r j m) : Wq g d M 0 0 pc ls [pO t r j] m (fun o m' c n => c = 0 ∧ n = 0 ∧ cO f o m') := Wq.aret hd hn ⟨rfl, rfl, q⟩
end RH
theorem sw_out2 {x : Int32} (q0 : ¬ x = 0) (q1 : ¬ x = 1) : x.toInt < 0 ∨ 1 < x.toInt := by
  refine (sw_core (x := x) (n := 2) (by decide) (fun k hk => ?_)).imp id (fun h => by omega)
  rcases Nat.lt_or_eq_of_le (Nat.le_of_lt_succ hk) with hk | rfl
  rotate_left
  · exact q1
  obtain rfl : k = 0 := by omega
  exact q0
theorem sw_out3 {x : Int32} (q0 : ¬ x = 0) (q1 : ¬ x = 1) (q2 : ¬ x = 2) : x.toInt < 0 ∨ 2 < x.toInt := by
  refine (sw_core (x := x) (n := 3) (by decide) (fun k hk => ?_)).imp id (fun h => by omega)
  rcases Nat.lt_or_eq_of_le (Nat.le_of_lt_succ hk) with hk | rfl
  rotate_left
  · exact q2
  rcases Nat.lt_or_eq_of_le (Nat.le_of_lt_succ hk) with hk | rfl
  rotate_left
  · exact q1
  obtain rfl : k = 0 := by omega
  exact q0
theorem sw_out4 {x : Int32} (q0 : ¬ x = 0) (q1 : ¬ x = 1) (q2 : ¬ x = 2) (q3 : ¬ x = 3) : x.toInt < 0 ∨ 3 < x.toInt := by
  refine (sw_core (x := x) (n := 4) (by decide) (fun k hk => ?_)).imp id (fun h => by omega)
  rcases Nat.lt_or_eq_of_le (Nat.le_of_lt_succ hk) with hk | rfl
  rotate_left
  · exact q3
  rcases Nat.lt_or_eq_of_le (Nat.le_of_lt_succ hk) with hk | rfl
  rotate_left
  · exact q2
  rcases Nat.lt_or_eq_of_le (Nat.le_of_lt_succ hk) with hk | rfl
  rotate_left
  · exact q1
  obtain rfl : k = 0 := by omega
  exact q0
theorem sw_out5 {x : Int32} (q0 : ¬ x = 0) (q1 : ¬ x = 1) (q2 : ¬ x = 2) (q3 : ¬ x = 3) (q4 : ¬ x = 4) : x.toInt < 0 ∨ 4 < x.toInt := by
  refine (sw_core (x := x) (n := 5) (by decide) (fun k hk => ?_)).imp id (fun h => by omega)
  rcases Nat.lt_or_eq_of_le (Nat.le_of_lt_succ hk) with hk | rfl
  rotate_left
  · exact q4
  rcases Nat.lt_or_eq_of_le (Nat.le_of_lt_succ hk) with hk | rfl
  rotate_left
  · exact q3
  rcases Nat.lt_or_eq_of_le (Nat.le_of_lt_succ hk) with hk | rfl
  rotate_left
  · exact q2
  rcases Nat.lt_or_eq_of_le (Nat.le_of_lt_succ hk) with hk | rfl
  rotate_left
  · exact q1
  obtain rfl : k = 0 := by omega
  exact q0
theorem sw_out6 {x : Int32} (q0 : ¬ x = 0) (q1 : ¬ x = 1) (q2 : ¬ x = 2) (q3 : ¬ x = 3) (q4 : ¬ x = 4) (q5 : ¬ x = 5) : x.toInt < 0 ∨ 5 < x.toInt := by
  refine (sw_core (x := x) (n := 6) (by decide) (fun k hk => ?_)).imp id (fun h => by omega)
  rcases Nat.lt_or_eq_of_le (Nat.le_of_lt_succ hk) with hk | rfl
  rotate_left
  · exact q5
  rcases Nat.lt_or_eq_of_le (Nat.le_of_lt_succ hk) with hk | rfl
  rotate_left
  · exact q4
  rcases Nat.lt_or_eq_of_le (Nat.le_of_lt_succ hk) with hk | rfl
  rotate_left
  · exact q3
  rcases Nat.lt_or_eq_of_le (Nat.le_of_lt_succ hk) with hk | rfl
  rotate_left
  · exact q2
  rcases Nat.lt_or_eq_of_le (Nat.le_of_lt_succ hk) with hk | rfl
  rotate_left
  · exact q1
  obtain rfl : k = 0 := by omega
  exact q0
theorem sw_out7 {x : Int32} (q0 : ¬ x = 0) (q1 : ¬ x = 1) (q2 : ¬ x = 2) (q3 : ¬ x = 3) (q4 : ¬ x = 4) (q5 : ¬ x = 5) (q6 : ¬ x = 6) : x.toInt < 0 ∨ 6 < x.toInt := by
  refine (sw_core (x := x) (n := 7) (by decide) (fun k hk => ?_)).imp id (fun h => by omega)
  rcases Nat.lt_or_eq_of_le (Nat.le_of_lt_succ hk) with hk | rfl
  rotate_left
  · exact q6
  rcases Nat.lt_or_eq_of_le (Nat.le_of_lt_succ hk) with hk | rfl
  rotate_left
  · exact q5
  rcases Nat.lt_or_eq_of_le (Nat.le_of_lt_succ hk) with hk | rfl
  rotate_left
  · exact q4
  rcases Nat.lt_or_eq_of_le (Nat.le_of_lt_succ hk) with hk | rfl
  rotate_left
  · exact q3
  rcases Nat.lt_or_eq_of_le (Nat.le_of_lt_succ hk) with hk | rfl
  rotate_left
  · exact q2
  rcases Nat.lt_or_eq_of_le (Nat.le_of_lt_succ hk) with hk | rfl
  rotate_left
  · exact q1
  obtain rfl : k = 0 := by omega
  exact q0
theorem sw_out8 {x : Int32} (q0 : ¬ x = 0) (q1 : ¬ x = 1) (q2 : ¬ x = 2) (q3 : ¬ x = 3) (q4 : ¬ x = 4) (q5 : ¬ x = 5) (q6 : ¬ x = 6) (q7 : ¬ x = 7) : x.toInt < 0 ∨ 7 < x.toInt := by
  refine (sw_core (x := x) (n := 8) (by decide) (fun k hk => ?_)).imp id (fun h => by omega)
  rcases Nat.lt_or_eq_of_le (Nat.le_of_lt_succ hk) with hk | rfl
  rotate_left
  · exact q7
  rcases Nat.lt_or_eq_of_le (Nat.le_of_lt_succ hk) with hk | rfl
  rotate_left
  · exact q6
  rcases Nat.lt_or_eq_of_le (Nat.le_of_lt_succ hk) with hk | rfl
  rotate_left
  · exact q5
  rcases Nat.lt_or_eq_of_le (Nat.le_of_lt_succ hk) with hk | rfl
  rotate_left
  · exact q4
  rcases Nat.lt_or_eq_of_le (Nat.le_of_lt_succ hk) with hk | rfl
  rotate_left
  · exact q3
  rcases Nat.lt_or_eq_of_le (Nat.le_of_lt_succ hk) with hk | rfl
  rotate_left
  · exact q2
  rcases Nat.lt_or_eq_of_le (Nat.le_of_lt_succ hk) with hk | rfl
  rotate_left
  · exact q1
  obtain rfl : k = 0 := by omega
  exact q0
theorem sw_out9 {x : Int32} (q0 : ¬ x = 0) (q1 : ¬ x = 1) (q2 : ¬ x = 2) (q3 : ¬ x = 3) (q4 : ¬ x = 4) (q5 : ¬ x = 5) (q6 : ¬ x = 6) (q7 : ¬ x = 7) (q8 : ¬ x = 8) : x.toInt < 0 ∨ 8 < x.toInt := by
  refine (sw_core (x := x) (n := 9) (by decide) (fun k hk => ?_)).imp id (fun h => by omega)
  rcases Nat.lt_or_eq_of_le (Nat.le_of_lt_succ hk) with hk | rfl
  rotate_left
  · exact q8
  rcases Nat.lt_or_eq_of_le (Nat.le_of_lt_succ hk) with hk | rfl
  rotate_left
  · exact q7
  rcases Nat.lt_or_eq_of_le (Nat.le_of_lt_succ hk) with hk | rfl
  rotate_left
  · exact q6
  rcases Nat.lt_or_eq_of_le (Nat.le_of_lt_succ hk) with hk | rfl
  rotate_left
  · exact q5
  rcases Nat.lt_or_eq_of_le (Nat.le_of_lt_succ hk) with hk | rfl
  rotate_left
  · exact q4
  rcases Nat.lt_or_eq_of_le (Nat.le_of_lt_succ hk) with hk | rfl
  rotate_left
  · exact q3
  rcases Nat.lt_or_eq_of_le (Nat.le_of_lt_succ hk) with hk | rfl
  rotate_left
  · exact q2
  rcases Nat.lt_or_eq_of_le (Nat.le_of_lt_succ hk) with hk | rfl
  rotate_left
  · exact q1
  obtain rfl : k = 0 := by omega
  exact q0
theorem sw_out10 {x : Int32} (q0 : ¬ x = 0) (q1 : ¬ x = 1) (q2 : ¬ x = 2) (q3 : ¬ x = 3) (q4 : ¬ x = 4) (q5 : ¬ x = 5) (q6 : ¬ x = 6) (q7 : ¬ x = 7) (q8 : ¬ x = 8) (q9 : ¬ x = 9) : x.toInt < 0 ∨ 9 < x.toInt := by
  refine (sw_core (x := x) (n := 10) (by decide) (fun k hk => ?_)).imp id (fun h => by omega)
  rcases Nat.lt_or_eq_of_le (Nat.le_of_lt_succ hk) with hk | rfl
  rotate_left
  · exact q9
  rcases Nat.lt_or_eq_of_le (Nat.le_of_lt_succ hk) with hk | rfl
  rotate_left
  · exact q8
  rcases Nat.lt_or_eq_of_le (Nat.le_of_lt_succ hk) with hk | rfl
  rotate_left
  · exact q7
  rcases Nat.lt_or_eq_of_le (Nat.le_of_lt_succ hk) with hk | rfl
  rotate_left
  · exact q6
  rcases Nat.lt_or_eq_of_le (Nat.le_of_lt_succ hk) with hk | rfl
  rotate_left
  · exact q5
  rcases Nat.lt_or_eq_of_le (Nat.le_of_lt_succ hk) with hk | rfl
  rotate_left
  · exact q4
  rcases Nat.lt_or_eq_of_le (Nat.le_of_lt_succ hk) with hk | rfl
  rotate_left
  · exact q3
  rcases Nat.lt_or_eq_of_le (Nat.le_of_lt_succ hk) with hk | rfl
  rotate_left
  · exact q2
  rcases Nat.lt_or_eq_of_le (Nat.le_of_lt_succ hk) with hk | rfl
  rotate_left
  · exact q1
  obtain rfl : k = 0 := by omega
  exact q0
theorem sw_out11 {x : Int32} (q0 : ¬ x = 0) (q1 : ¬ x = 1) (q2 : ¬ x = 2) (q3 : ¬ x = 3) (q4 : ¬ x = 4) (q5 : ¬ x = 5) (q6 : ¬ x = 6) (q7 : ¬ x = 7) (q8 : ¬ x = 8) (q9 : ¬ x = 9) (q10 : ¬ x = 10) : x.toInt < 0 ∨ 10 < x.toInt := by
  refine (sw_core (x := x) (n := 11) (by decide) (fun k hk => ?_)).imp id (fun h => by omega)
  rcases Nat.lt_or_eq_of_le (Nat.le_of_lt_succ hk) with hk | rfl
  rotate_left
  · exact q10
  rcases Nat.lt_or_eq_of_le (Nat.le_of_lt_succ hk) with hk | rfl
  rotate_left
  · exact q9
  rcases Nat.lt_or_eq_of_le (Nat.le_of_lt_succ hk) with hk | rfl
  rotate_left
  · exact q8
  rcases Nat.lt_or_eq_of_le (Nat.le_of_lt_succ hk) with hk | rfl
  rotate_left
  · exact q7
  rcases Nat.lt_or_eq_of_le (Nat.le_of_lt_succ hk) with hk | rfl
  rotate_left
  · exact q6
  rcases Nat.lt_or_eq_of_le (Nat.le_of_lt_succ hk) with hk | rfl
  rotate_left
  · exact q5
  rcases Nat.lt_or_eq_of_le (Nat.le_of_lt_succ hk) with hk | rfl
  rotate_left
  · exact q4
  rcases Nat.lt_or_eq_of_le (Nat.le_of_lt_succ hk) with hk | rfl
  rotate_left
  · exact q3
  rcases Nat.lt_or_eq_of_le (Nat.le_of_lt_succ hk) with hk | rfl
  rotate_left
  · exact q2
  rcases Nat.lt_or_eq_of_le (Nat.le_of_lt_succ hk) with hk | rfl
  rotate_left
  · exact q1
  obtain rfl : k = 0 := by omega
  exact q0
theorem sw_out12 {x : Int32} (q0 : ¬ x = 0) (q1 : ¬ x = 1) (q2 : ¬ x = 2) (q3 : ¬ x = 3) (q4 : ¬ x = 4) (q5 : ¬ x = 5) (q6 : ¬ x = 6) (q7 : ¬ x = 7) (q8 : ¬ x = 8) (q9 : ¬ x = 9) (q10 : ¬ x = 10) (q11 : ¬ x = 11) : x.toInt < 0 ∨ 11 < x.toInt := by
  refine (sw_core (x := x) (n := 12) (by decide) (fun k hk => ?_)).imp id (fun h => by omega)
  rcases Nat.lt_or_eq_of_le (Nat.le_of_lt_succ hk) with hk | rfl
  rotate_left
  · exact q11
  rcases Nat.lt_or_eq_of_le (Nat.le_of_lt_succ hk) with hk | rfl
  rotate_left
  · exact q10
  rcases Nat.lt_or_eq_of_le (Nat.le_of_lt_succ hk) with hk | rfl
  rotate_left
  · exact q9
  rcases Nat.lt_or_eq_of_le (Nat.le_of_lt_succ hk) with hk | rfl
  rotate_left
  · exact q8
  rcases Nat.lt_or_eq_of_le (Nat.le_of_lt_succ hk) with hk | rfl
  rotate_left
  · exact q7
  rcases Nat.lt_or_eq_of_le (Nat.le_of_lt_succ hk) with hk | rfl
  rotate_left
  · exact q6
  rcases Nat.lt_or_eq_of_le (Nat.le_of_lt_succ hk) with hk | rfl
  rotate_left
  · exact q5
  rcases Nat.lt_or_eq_of_le (Nat.le_of_lt_succ hk) with hk | rfl
  rotate_left
  · exact q4
  rcases Nat.lt_or_eq_of_le (Nat.le_of_lt_succ hk) with hk | rfl
  rotate_left
  · exact q3
  rcases Nat.lt_or_eq_of_le (Nat.le_of_lt_succ hk) with hk | rfl
  rotate_left
  · exact q2
  rcases Nat.lt_or_eq_of_le (Nat.le_of_lt_succ hk) with hk | rfl
  rotate_left
  · exact q1
  obtain rfl : k = 0 := by omega
  exact q0
theorem sw_out13 {x : Int32} (q0 : ¬ x = 0) (q1 : ¬ x = 1) (q2 : ¬ x = 2) (q3 : ¬ x = 3) (q4 : ¬ x = 4) (q5 : ¬ x = 5) (q6 : ¬ x = 6) (q7 : ¬ x = 7) (q8 : ¬ x = 8) (q9 : ¬ x = 9) (q10 : ¬ x = 10) (q11 : ¬ x = 11) (q12 : ¬ x = 12) : x.toInt < 0 ∨ 12 < x.toInt := by
  refine (sw_core (x := x) (n := 13) (by decide) (fun k hk => ?_)).imp id (fun h => by omega)
  rcases Nat.lt_or_eq_of_le (Nat.le_of_lt_succ hk) with hk | rfl
  rotate_left
  · exact q12
  rcases Nat.lt_or_eq_of_le (Nat.le_of_lt_succ hk) with hk | rfl
  rotate_left
  · exact q11
  rcases Nat.lt_or_eq_of_le (Nat.le_of_lt_succ hk) with hk | rfl
  rotate_left
  · exact q10
  rcases Nat.lt_or_eq_of_le (Nat.le_of_lt_succ hk) with hk | rfl
  rotate_left
  · exact q9
  rcases Nat.lt_or_eq_of_le (Nat.le_of_lt_succ hk) with hk | rfl
  rotate_left
  · exact q8
  rcases Nat.lt_or_eq_of_le (Nat.le_of_lt_succ hk) with hk | rfl
  rotate_left
  · exact q7
  rcases Nat.lt_or_eq_of_le (Nat.le_of_lt_succ hk) with hk | rfl
  rotate_left
  · exact q6
  rcases Nat.lt_or_eq_of_le (Nat.le_of_lt_succ hk) with hk | rfl
  rotate_left
  · exact q5
  rcases Nat.lt_or_eq_of_le (Nat.le_of_lt_succ hk) with hk | rfl
  rotate_left
  · exact q4
  rcases Nat.lt_or_eq_of_le (Nat.le_of_lt_succ hk) with hk | rfl
  rotate_left
  · exact q3
  rcases Nat.lt_or_eq_of_le (Nat.le_of_lt_succ hk) with hk | rfl
  rotate_left
  · exact q2
  rcases Nat.lt_or_eq_of_le (Nat.le_of_lt_succ hk) with hk | rfl
  rotate_left
  · exact q1
  obtain rfl : k = 0 := by omega
  exact q0
theorem sw_out14 {x : Int32} (q0 : ¬ x = 0) (q1 : ¬ x = 1) (q2 : ¬ x = 2) (q3 : ¬ x = 3) (q4 : ¬ x = 4) (q5 : ¬ x = 5) (q6 : ¬ x = 6) (q7 : ¬ x = 7) (q8 : ¬ x = 8) (q9 : ¬ x = 9) (q10 : ¬ x = 10) (q11 : ¬ x = 11) (q12 : ¬ x = 12) (q13 : ¬ x = 13) : x.toInt < 0 ∨ 13 < x.toInt := by
  refine (sw_core (x := x) (n := 14) (by decide) (fun k hk => ?_)).imp id (fun h => by omega)
  rcases Nat.lt_or_eq_of_le (Nat.le_of_lt_succ hk) with hk | rfl
  rotate_left
  · exact q13
  rcases Nat.lt_or_eq_of_le (Nat.le_of_lt_succ hk) with hk | rfl
  rotate_left
  · exact q12
  rcases Nat.lt_or_eq_of_le (Nat.le_of_lt_succ hk) with hk | rfl
  rotate_left
  · exact q11
  rcases Nat.lt_or_eq_of_le (Nat.le_of_lt_succ hk) with hk | rfl
  rotate_left
  · exact q10
  rcases Nat.lt_or_eq_of_le (Nat.le_of_lt_succ hk) with hk | rfl
  rotate_left
  · exact q9
  rcases Nat.lt_or_eq_of_le (Nat.le_of_lt_succ hk) with hk | rfl
  rotate_left
  · exact q8
  rcases Nat.lt_or_eq_of_le (Nat.le_of_lt_succ hk) with hk | rfl
  rotate_left
  · exact q7
  rcases Nat.lt_or_eq_of_le (Nat.le_of_lt_succ hk) with hk | rfl
  rotate_left
  · exact q6
  rcases Nat.lt_or_eq_of_le (Nat.le_of_lt_succ hk) with hk | rfl
  rotate_left
  · exact q5
  rcases Nat.lt_or_eq_of_le (Nat.le_of_lt_succ hk) with hk | rfl
  rotate_left
  · exact q4
  rcases Nat.lt_or_eq_of_le (Nat.le_of_lt_succ hk) with hk | rfl
  rotate_left
  · exact q3
  rcases Nat.lt_or_eq_of_le (Nat.le_of_lt_succ hk) with hk | rfl
  rotate_left
  · exact q2
  rcases Nat.lt_or_eq_of_le (Nat.le_of_lt_succ hk) with hk | rfl
  rotate_left
  · exact q1
  obtain rfl : k = 0 := by omega
  exact q0
theorem sw_out15 {x : Int32} (q0 : ¬ x = 0) (q1 : ¬ x = 1) (q2 : ¬ x = 2) (q3 : ¬ x = 3) (q4 : ¬ x = 4) (q5 : ¬ x = 5) (q6 : ¬ x = 6) (q7 : ¬ x = 7) (q8 : ¬ x = 8) (q9 : ¬ x = 9) (q10 : ¬ x = 10) (q11 : ¬ x = 11) (q12 : ¬ x = 12) (q13 : ¬ x = 13) (q14 : ¬ x = 14) : x.toInt < 0 ∨ 14 < x.toInt := by
  refine (sw_core (x := x) (n := 15) (by decide) (fun k hk => ?_)).imp id (fun h => by omega)
  rcases Nat.lt_or_eq_of_le (Nat.le_of_lt_succ hk) with hk | rfl
  rotate_left
  · exact q14
  rcases Nat.lt_or_eq_of_le (Nat.le_of_lt_succ hk) with hk | rfl
  rotate_left
  · exact q13
  rcases Nat.lt_or_eq_of_le (Nat.le_of_lt_succ hk) with hk | rfl
  rotate_left
  · exact q12
  rcases Nat.lt_or_eq_of_le (Nat.le_of_lt_succ hk) with hk | rfl
  rotate_left
  · exact q11
  rcases Nat.lt_or_eq_of_le (Nat.le_of_lt_succ hk) with hk | rfl
  rotate_left
  · exact q10
  rcases Nat.lt_or_eq_of_le (Nat.le_of_lt_succ hk) with hk | rfl
  rotate_left
  · exact q9
  rcases Nat.lt_or_eq_of_le (Nat.le_of_lt_succ hk) with hk | rfl
  rotate_left
  · exact q8
  rcases Nat.lt_or_eq_of_le (Nat.le_of_lt_succ hk) with hk | rfl
  rotate_left
  · exact q7
  rcases Nat.lt_or_eq_of_le (Nat.le_of_lt_succ hk) with hk | rfl
  rotate_left
  · exact q6
  rcases Nat.lt_or_eq_of_le (Nat.le_of_lt_succ hk) with hk | rfl
  rotate_left
  · exact q5
  rcases Nat.lt_or_eq_of_le (Nat.le_of_lt_succ hk) with hk | rfl
  rotate_left
  · exact q4
  rcases Nat.lt_or_eq_of_le (Nat.le_of_lt_succ hk) with hk | rfl
  rotate_left
  · exact q3
  rcases Nat.lt_or_eq_of_le (Nat.le_of_lt_succ hk) with hk | rfl
  rotate_left
  · exact q2
  rcases Nat.lt_or_eq_of_le (Nat.le_of_lt_succ hk) with hk | rfl
  rotate_left
  · exact q1
  obtain rfl : k = 0 := by omega
  exact q0
theorem sw_out16 {x : Int32} (q0 : ¬ x = 0) (q1 : ¬ x = 1) (q2 : ¬ x = 2) (q3 : ¬ x = 3) (q4 : ¬ x = 4) (q5 : ¬ x = 5) (q6 : ¬ x = 6) (q7 : ¬ x = 7) (q8 : ¬ x = 8) (q9 : ¬ x = 9) (q10 : ¬ x = 10) (q11 : ¬ x = 11) (q12 : ¬ x = 12) (q13 : ¬ x = 13) (q14 : ¬ x = 14) (q15 : ¬ x = 15) : x.toInt < 0 ∨ 15 < x.toInt := by
  refine (sw_core (x := x) (n := 16) (by decide) (fun k hk => ?_)).imp id (fun h => by omega)
  rcases Nat.lt_or_eq_of_le (Nat.le_of_lt_succ hk) with hk | rfl
  rotate_left
  · exact q15
  rcases Nat.lt_or_eq_of_le (Nat.le_of_lt_succ hk) with hk | rfl
  rotate_left
  · exact q14
  rcases Nat.lt_or_eq_of_le (Nat.le_of_lt_succ hk) with hk | rfl
  rotate_left
  · exact q13
  rcases Nat.lt_or_eq_of_le (Nat.le_of_lt_succ hk) with hk | rfl
  rotate_left
  · exact q12
  rcases Nat.lt_or_eq_of_le (Nat.le_of_lt_succ hk) with hk | rfl
  rotate_left
  · exact q11
  rcases Nat.lt_or_eq_of_le (Nat.le_of_lt_succ hk) with hk | rfl
  rotate_left
  · exact q10
  rcases Nat.lt_or_eq_of_le (Nat.le_of_lt_succ hk) with hk | rfl
  rotate_left
  · exact q9
  rcases Nat.lt_or_eq_of_le (Nat.le_of_lt_succ hk) with hk | rfl
  rotate_left
  · exact q8
  rcases Nat.lt_or_eq_of_le (Nat.le_of_lt_succ hk) with hk | rfl
  rotate_left
  · exact q7
  rcases Nat.lt_or_eq_of_le (Nat.le_of_lt_succ hk) with hk | rfl
  rotate_left
  · exact q6
  rcases Nat.lt_or_eq_of_le (Nat.le_of_lt_succ hk) with hk | rfl
  rotate_left
  · exact q5
  rcases Nat.lt_or_eq_of_le (Nat.le_of_lt_succ hk) with hk | rfl
  rotate_left
  · exact q4
  rcases Nat.lt_or_eq_of_le (Nat.le_of_lt_succ hk) with hk | rfl
  rotate_left
  · exact q3
  rcases Nat.lt_or_eq_of_le (Nat.le_of_lt_succ hk) with hk | rfl
  rotate_left
  · exact q2
  rcases Nat.lt_or_eq_of_le (Nat.le_of_lt_succ hk) with hk | rfl
  rotate_left
  · exact q1
  obtain rfl : k = 0 := by omega
  exact q0
theorem sw_out17 {x : Int32} (q0 : ¬ x = 0) (q1 : ¬ x = 1) (q2 : ¬ x = 2) (q3 : ¬ x = 3) (q4 : ¬ x = 4) (q5 : ¬ x = 5) (q6 : ¬ x = 6) (q7 : ¬ x = 7) (q8 : ¬ x = 8) (q9 : ¬ x = 9) (q10 : ¬ x = 10) (q11 : ¬ x = 11) (q12 : ¬ x = 12) (q13 : ¬ x = 13) (q14 : ¬ x = 14) (q15 : ¬ x = 15) (q16 : ¬ x = 16) : x.toInt < 0 ∨ 16 < x.toInt := by
  refine (sw_core (x := x) (n := 17) (by decide) (fun k hk => ?_)).imp id (fun h => by omega)
  rcases Nat.lt_or_eq_of_le (Nat.le_of_lt_succ hk) with hk | rfl
  rotate_left
  · exact q16
  rcases Nat.lt_or_eq_of_le (Nat.le_of_lt_succ hk) with hk | rfl
  rotate_left
  · exact q15
  rcases Nat.lt_or_eq_of_le (Nat.le_of_lt_succ hk) with hk | rfl
  rotate_left
  · exact q14
  rcases Nat.lt_or_eq_of_le (Nat.le_of_lt_succ hk) with hk | rfl
  rotate_left
  · exact q13
  rcases Nat.lt_or_eq_of_le (Nat.le_of_lt_succ hk) with hk | rfl
  rotate_left
  · exact q12
  rcases Nat.lt_or_eq_of_le (Nat.le_of_lt_succ hk) with hk | rfl
  rotate_left
  · exact q11
  rcases Nat.lt_or_eq_of_le (Nat.le_of_lt_succ hk) with hk | rfl
  rotate_left
  · exact q10
  rcases Nat.lt_or_eq_of_le (Nat.le_of_lt_succ hk) with hk | rfl
  rotate_left
  · exact q9
  rcases Nat.lt_or_eq_of_le (Nat.le_of_lt_succ hk) with hk | rfl
  rotate_left
  · exact q8
  rcases Nat.lt_or_eq_of_le (Nat.le_of_lt_succ hk) with hk | rfl
  rotate_left
  · exact q7
  rcases Nat.lt_or_eq_of_le (Nat.le_of_lt_succ hk) with hk | rfl
  rotate_left
  · exact q6
  rcases Nat.lt_or_eq_of_le (Nat.le_of_lt_succ hk) with hk | rfl
  rotate_left
  · exact q5
  rcases Nat.lt_or_eq_of_le (Nat.le_of_lt_succ hk) with hk | rfl
  rotate_left
  · exact q4
  rcases Nat.lt_or_eq_of_le (Nat.le_of_lt_succ hk) with hk | rfl
  rotate_left
  · exact q3
  rcases Nat.lt_or_eq_of_le (Nat.le_of_lt_succ hk) with hk | rfl
  rotate_left
  · exact q2
  rcases Nat.lt_or_eq_of_le (Nat.le_of_lt_succ hk) with hk | rfl
  rotate_left
  · exact q1
  obtain rfl : k = 0 := by omega
  exact q0
theorem sw_out18 {x : Int32} (q0 : ¬ x = 0) (q1 : ¬ x = 1) (q2 : ¬ x = 2) (q3 : ¬ x = 3) (q4 : ¬ x = 4) (q5 : ¬ x = 5) (q6 : ¬ x = 6) (q7 : ¬ x = 7) (q8 : ¬ x = 8) (q9 : ¬ x = 9) (q10 : ¬ x = 10) (q11 : ¬ x = 11) (q12 : ¬ x = 12) (q13 : ¬ x = 13) (q14 : ¬ x = 14) (q15 : ¬ x = 15) (q16 : ¬ x = 16) (q17 : ¬ x = 17) : x.toInt < 0 ∨ 17 < x.toInt := by
  refine (sw_core (x := x) (n := 18) (by decide) (fun k hk => ?_)).imp id (fun h => by omega)
  rcases Nat.lt_or_eq_of_le (Nat.le_of_lt_succ hk) with hk | rfl
  rotate_left
  · exact q17
  rcases Nat.lt_or_eq_of_le (Nat.le_of_lt_succ hk) with hk | rfl
  rotate_left
  · exact q16
  rcases Nat.lt_or_eq_of_le (Nat.le_of_lt_succ hk) with hk | rfl
  rotate_left
  · exact q15
  rcases Nat.lt_or_eq_of_le (Nat.le_of_lt_succ hk) with hk | rfl
  rotate_left
  · exact q14
  rcases Nat.lt_or_eq_of_le (Nat.le_of_lt_succ hk) with hk | rfl
  rotate_left
  · exact q13
  rcases Nat.lt_or_eq_of_le (Nat.le_of_lt_succ hk) with hk | rfl
  rotate_left
  · exact q12
  rcases Nat.lt_or_eq_of_le (Nat.le_of_lt_succ hk) with hk | rfl
  rotate_left
  · exact q11
  rcases Nat.lt_or_eq_of_le (Nat.le_of_lt_succ hk) with hk | rfl
  rotate_left
  · exact q10
  rcases Nat.lt_or_eq_of_le (Nat.le_of_lt_succ hk) with hk | rfl
  rotate_left
  · exact q9
  rcases Nat.lt_or_eq_of_le (Nat.le_of_lt_succ hk) with hk | rfl
  rotate_left
  · exact q8
  rcases Nat.lt_or_eq_of_le (Nat.le_of_lt_succ hk) with hk | rfl
  rotate_left
  · exact q7
  rcases Nat.lt_or_eq_of_le (Nat.le_of_lt_succ hk) with hk | rfl
  rotate_left
  · exact q6
  rcases Nat.lt_or_eq_of_le (Nat.le_of_lt_succ hk) with hk | rfl
  rotate_left
  · exact q5
  rcases Nat.lt_or_eq_of_le (Nat.le_of_lt_succ hk) with hk | rfl
  rotate_left
  · exact q4
  rcases Nat.lt_or_eq_of_le (Nat.le_of_lt_succ hk) with hk | rfl
  rotate_left
  · exact q3
  rcases Nat.lt_or_eq_of_le (Nat.le_of_lt_succ hk) with hk | rfl
  rotate_left
  · exact q2
  rcases Nat.lt_or_eq_of_le (Nat.le_of_lt_succ hk) with hk | rfl
  rotate_left
  · exact q1
  obtain rfl : k = 0 := by omega
  exact q0
theorem sw_out19 {x : Int32} (q0 : ¬ x = 0) (q1 : ¬ x = 1) (q2 : ¬ x = 2) (q3 : ¬ x = 3) (q4 : ¬ x = 4) (q5 : ¬ x = 5) (q6 : ¬ x = 6) (q7 : ¬ x = 7) (q8 : ¬ x = 8) (q9 : ¬ x = 9) (q10 : ¬ x = 10) (q11 : ¬ x = 11) (q12 : ¬ x = 12) (q13 : ¬ x = 13) (q14 : ¬ x = 14) (q15 : ¬ x = 15) (q16 : ¬ x = 16) (q17 : ¬ x = 17) (q18 : ¬ x = 18) : x.toInt < 0 ∨ 18 < x.toInt := by
  refine (sw_core (x := x) (n := 19) (by decide) (fun k hk => ?_)).imp id (fun h => by omega)
  rcases Nat.lt_or_eq_of_le (Nat.le_of_lt_succ hk) with hk | rfl
  rotate_left
  · exact q18
  rcases Nat.lt_or_eq_of_le (Nat.le_of_lt_succ hk) with hk | rfl
  rotate_left
  · exact q17
  rcases Nat.lt_or_eq_of_le (Nat.le_of_lt_succ hk) with hk | rfl
  rotate_left
  · exact q16
  rcases Nat.lt_or_eq_of_le (Nat.le_of_lt_succ hk) with hk | rfl
  rotate_left
  · exact q15
  rcases Nat.lt_or_eq_of_le (Nat.le_of_lt_succ hk) with hk | rfl
  rotate_left
  · exact q14
  rcases Nat.lt_or_eq_of_le (Nat.le_of_lt_succ hk) with hk | rfl
  rotate_left
  · exact q13
  rcases Nat.lt_or_eq_of_le (Nat.le_of_lt_succ hk) with hk | rfl
  rotate_left
  · exact q12
  rcases Nat.lt_or_eq_of_le (Nat.le_of_lt_succ hk) with hk | rfl
  rotate_left
  · exact q11
  rcases Nat.lt_or_eq_of_le (Nat.le_of_lt_succ hk) with hk | rfl
  rotate_left
  · exact q10
  rcases Nat.lt_or_eq_of_le (Nat.le_of_lt_succ hk) with hk | rfl
  rotate_left
  · exact q9
  rcases Nat.lt_or_eq_of_le (Nat.le_of_lt_succ hk) with hk | rfl
  rotate_left
  · exact q8
  rcases Nat.lt_or_eq_of_le (Nat.le_of_lt_succ hk) with hk | rfl
  rotate_left
  · exact q7
  rcases Nat.lt_or_eq_of_le (Nat.le_of_lt_succ hk) with hk | rfl
  rotate_left
  · exact q6
  rcases Nat.lt_or_eq_of_le (Nat.le_of_lt_succ hk) with hk | rfl
  rotate_left
  · exact q5
  rcases Nat.lt_or_eq_of_le (Nat.le_of_lt_succ hk) with hk | rfl
  rotate_left
  · exact q4
  rcases Nat.lt_or_eq_of_le (Nat.le_of_lt_succ hk) with hk | rfl
  rotate_left
  · exact q3
  rcases Nat.lt_or_eq_of_le (Nat.le_of_lt_succ hk) with hk | rfl
  rotate_left
  · exact q2
  rcases Nat.lt_or_eq_of_le (Nat.le_of_lt_succ hk) with hk | rfl
  rotate_left
  · exact q1
  obtain rfl : k = 0 := by omega
  exact q0
theorem sw_out20 {x : Int32} (q0 : ¬ x = 0) (q1 : ¬ x = 1) (q2 : ¬ x = 2) (q3 : ¬ x = 3) (q4 : ¬ x = 4) (q5 : ¬ x = 5) (q6 : ¬ x = 6) (q7 : ¬ x = 7) (q8 : ¬ x = 8) (q9 : ¬ x = 9) (q10 : ¬ x = 10) (q11 : ¬ x = 11) (q12 : ¬ x = 12) (q13 : ¬ x = 13) (q14 : ¬ x = 14) (q15 : ¬ x = 15) (q16 : ¬ x = 16) (q17 : ¬ x = 17) (q18 : ¬ x = 18) (q19 : ¬ x = 19) : x.toInt < 0 ∨ 19 < x.toInt := by
  refine (sw_core (x := x) (n := 20) (by decide) (fun k hk => ?_)).imp id (fun h => by omega)
  rcases Nat.lt_or_eq_of_le (Nat.le_of_lt_succ hk) with hk | rfl
  rotate_left
  · exact q19
  rcases Nat.lt_or_eq_of_le (Nat.le_of_lt_succ hk) with hk | rfl
  rotate_left
  · exact q18
  rcases Nat.lt_or_eq_of_le (Nat.le_of_lt_succ hk) with hk | rfl
  rotate_left
  · exact q17
  rcases Nat.lt_or_eq_of_le (Nat.le_of_lt_succ hk) with hk | rfl
  rotate_left
  · exact q16
  rcases Nat.lt_or_eq_of_le (Nat.le_of_lt_succ hk) with hk | rfl
  rotate_left
  · exact q15
  rcases Nat.lt_or_eq_of_le (Nat.le_of_lt_succ hk) with hk | rfl
  rotate_left
  · exact q14
  rcases Nat.lt_or_eq_of_le (Nat.le_of_lt_succ hk) with hk | rfl
  rotate_left
  · exact q13
  rcases Nat.lt_or_eq_of_le (Nat.le_of_lt_succ hk) with hk | rfl
  rotate_left
  · exact q12
  rcases Nat.lt_or_eq_of_le (Nat.le_of_lt_succ hk) with hk | rfl
  rotate_left
  · exact q11
  rcases Nat.lt_or_eq_of_le (Nat.le_of_lt_succ hk) with hk | rfl
  rotate_left
  · exact q10
  rcases Nat.lt_or_eq_of_le (Nat.le_of_lt_succ hk) with hk | rfl
  rotate_left
  · exact q9
  rcases Nat.lt_or_eq_of_le (Nat.le_of_lt_succ hk) with hk | rfl
  rotate_left
  · exact q8
  rcases Nat.lt_or_eq_of_le (Nat.le_of_lt_succ hk) with hk | rfl
  rotate_left
  · exact q7
  rcases Nat.lt_or_eq_of_le (Nat.le_of_lt_succ hk) with hk | rfl
  rotate_left
  · exact q6
  rcases Nat.lt_or_eq_of_le (Nat.le_of_lt_succ hk) with hk | rfl
  rotate_left
  · exact q5
  rcases Nat.lt_or_eq_of_le (Nat.le_of_lt_succ hk) with hk | rfl
  rotate_left
  · exact q4
  rcases Nat.lt_or_eq_of_le (Nat.le_of_lt_succ hk) with hk | rfl
  rotate_left
  · exact q3
  rcases Nat.lt_or_eq_of_le (Nat.le_of_lt_succ hk) with hk | rfl
  rotate_left
  · exact q2
  rcases Nat.lt_or_eq_of_le (Nat.le_of_lt_succ hk) with hk | rfl
  rotate_left
  · exact q1
  obtain rfl : k = 0 := by omega
  exact q0
theorem sw_out21 {x : Int32} (q0 : ¬ x = 0) (q1 : ¬ x = 1) (q2 : ¬ x = 2) (q3 : ¬ x = 3) (q4 : ¬ x = 4) (q5 : ¬ x = 5) (q6 : ¬ x = 6) (q7 : ¬ x = 7) (q8 : ¬ x = 8) (q9 : ¬ x = 9) (q10 : ¬ x = 10) (q11 : ¬ x = 11) (q12 : ¬ x = 12) (q13 : ¬ x = 13) (q14 : ¬ x = 14) (q15 : ¬ x = 15) (q16 : ¬ x = 16) (q17 : ¬ x = 17) (q18 : ¬ x = 18) (q19 : ¬ x = 19) (q20 : ¬ x = 20) : x.toInt < 0 ∨ 20 < x.toInt := by
  refine (sw_core (x := x) (n := 21) (by decide) (fun k hk => ?_)).imp id (fun h => by omega)
  rcases Nat.lt_or_eq_of_le (Nat.le_of_lt_succ hk) with hk | rfl
  rotate_left
  · exact q20
  rcases Nat.lt_or_eq_of_le (Nat.le_of_lt_succ hk) with hk | rfl
  rotate_left
  · exact q19
  rcases Nat.lt_or_eq_of_le (Nat.le_of_lt_succ hk) with hk | rfl
  rotate_left
  · exact q18
  rcases Nat.lt_or_eq_of_le (Nat.le_of_lt_succ hk) with hk | rfl
  rotate_left
  · exact q17
  rcases Nat.lt_or_eq_of_le (Nat.le_of_lt_succ hk) with hk | rfl
  rotate_left
  · exact q16
  rcases Nat.lt_or_eq_of_le (Nat.le_of_lt_succ hk) with hk | rfl
  rotate_left
  · exact q15
  rcases Nat.lt_or_eq_of_le (Nat.le_of_lt_succ hk) with hk | rfl
  rotate_left
  · exact q14
  rcases Nat.lt_or_eq_of_le (Nat.le_of_lt_succ hk) with hk | rfl
  rotate_left
  · exact q13
  rcases Nat.lt_or_eq_of_le (Nat.le_of_lt_succ hk) with hk | rfl
  rotate_left
  · exact q12
  rcases Nat.lt_or_eq_of_le (Nat.le_of_lt_succ hk) with hk | rfl
  rotate_left
  · exact q11
  rcases Nat.lt_or_eq_of_le (Nat.le_of_lt_succ hk) with hk | rfl
  rotate_left
  · exact q10
  rcases Nat.lt_or_eq_of_le (Nat.le_of_lt_succ hk) with hk | rfl
  rotate_left
  · exact q9
  rcases Nat.lt_or_eq_of_le (Nat.le_of_lt_succ hk) with hk | rfl
  rotate_left
  · exact q8
  rcases Nat.lt_or_eq_of_le (Nat.le_of_lt_succ hk) with hk | rfl
  rotate_left
  · exact q7
  rcases Nat.lt_or_eq_of_le (Nat.le_of_lt_succ hk) with hk | rfl
  rotate_left
  · exact q6
  rcases Nat.lt_or_eq_of_le (Nat.le_of_lt_succ hk) with hk | rfl
  rotate_left
  · exact q5
  rcases Nat.lt_or_eq_of_le (Nat.le_of_lt_succ hk) with hk | rfl
  rotate_left
  · exact q4
  rcases Nat.lt_or_eq_of_le (Nat.le_of_lt_succ hk) with hk | rfl
  rotate_left
  · exact q3
  rcases Nat.lt_or_eq_of_le (Nat.le_of_lt_succ hk) with hk | rfl
  rotate_left
  · exact q2
  rcases Nat.lt_or_eq_of_le (Nat.le_of_lt_succ hk) with hk | rfl
  rotate_left
  · exact q1
  obtain rfl : k = 0 := by omega
  exact q0
theorem sw_out22 {x : Int32} (q0 : ¬ x = 0) (q1 : ¬ x = 1) (q2 : ¬ x = 2) (q3 : ¬ x = 3) (q4 : ¬ x = 4) (q5 : ¬ x = 5) (q6 : ¬ x = 6) (q7 : ¬ x = 7) (q8 : ¬ x = 8) (q9 : ¬ x = 9) (q10 : ¬ x = 10) (q11 : ¬ x = 11) (q12 : ¬ x = 12) (q13 : ¬ x = 13) (q14 : ¬ x = 14) (q15 : ¬ x = 15) (q16 : ¬ x = 16) (q17 : ¬ x = 17) (q18 : ¬ x = 18) (q19 : ¬ x = 19) (q20 : ¬ x = 20) (q21 : ¬ x = 21) : x.toInt < 0 ∨ 21 < x.toInt := by
  refine (sw_core (x := x) (n := 22) (by decide) (fun k hk => ?_)).imp id (fun h => by omega)
  rcases Nat.lt_or_eq_of_le (Nat.le_of_lt_succ hk) with hk | rfl
  rotate_left
  · exact q21
  rcases Nat.lt_or_eq_of_le (Nat.le_of_lt_succ hk) with hk | rfl
  rotate_left
  · exact q20
  rcases Nat.lt_or_eq_of_le (Nat.le_of_lt_succ hk) with hk | rfl
  rotate_left
  · exact q19
  rcases Nat.lt_or_eq_of_le (Nat.le_of_lt_succ hk) with hk | rfl
  rotate_left
  · exact q18
  rcases Nat.lt_or_eq_of_le (Nat.le_of_lt_succ hk) with hk | rfl
  rotate_left
  · exact q17
  rcases Nat.lt_or_eq_of_le (Nat.le_of_lt_succ hk) with hk | rfl
  rotate_left
  · exact q16
  rcases Nat.lt_or_eq_of_le (Nat.le_of_lt_succ hk) with hk | rfl
  rotate_left
  · exact q15
  rcases Nat.lt_or_eq_of_le (Nat.le_of_lt_succ hk) with hk | rfl
  rotate_left
  · exact q14
  rcases Nat.lt_or_eq_of_le (Nat.le_of_lt_succ hk) with hk | rfl
  rotate_left
  · exact q13
  rcases Nat.lt_or_eq_of_le (Nat.le_of_lt_succ hk) with hk | rfl
  rotate_left
  · exact q12
  rcases Nat.lt_or_eq_of_le (Nat.le_of_lt_succ hk) with hk | rfl
  rotate_left
  · exact q11
  rcases Nat.lt_or_eq_of_le (Nat.le_of_lt_succ hk) with hk | rfl
  rotate_left
  · exact q10
  rcases Nat.lt_or_eq_of_le (Nat.le_of_lt_succ hk) with hk | rfl
  rotate_left
  · exact q9
  rcases Nat.lt_or_eq_of_le (Nat.le_of_lt_succ hk) with hk | rfl
  rotate_left
  · exact q8
  rcases Nat.lt_or_eq_of_le (Nat.le_of_lt_succ hk) with hk | rfl
  rotate_left
  · exact q7
  rcases Nat.lt_or_eq_of_le (Nat.le_of_lt_succ hk) with hk | rfl
  rotate_left
  · exact q6
  rcases Nat.lt_or_eq_of_le (Nat.le_of_lt_succ hk) with hk | rfl
  rotate_left
  · exact q5
  rcases Nat.lt_or_eq_of_le (Nat.le_of_lt_succ hk) with hk | rfl
  rotate_left
  · exact q4
  rcases Nat.lt_or_eq_of_le (Nat.le_of_lt_succ hk) with hk | rfl
  rotate_left
  · exact q3
  rcases Nat.lt_or_eq_of_le (Nat.le_of_lt_succ hk) with hk | rfl
  rotate_left
  · exact q2
  rcases Nat.lt_or_eq_of_le (Nat.le_of_lt_succ hk) with hk | rfl
  rotate_left
  · exact q1
  obtain rfl : k = 0 := by omega
  exact q0
theorem sw_out23 {x : Int32} (q0 : ¬ x = 0) (q1 : ¬ x = 1) (q2 : ¬ x = 2) (q3 : ¬ x = 3) (q4 : ¬ x = 4) (q5 : ¬ x = 5) (q6 : ¬ x = 6) (q7 : ¬ x = 7) (q8 : ¬ x = 8) (q9 : ¬ x = 9) (q10 : ¬ x = 10) (q11 : ¬ x = 11) (q12 : ¬ x = 12) (q13 : ¬ x = 13) (q14 : ¬ x = 14) (q15 : ¬ x = 15) (q16 : ¬ x = 16) (q17 : ¬ x = 17) (q18 : ¬ x = 18) (q19 : ¬ x = 19) (q20 : ¬ x = 20) (q21 : ¬ x = 21) (q22 : ¬ x = 22) : x.toInt < 0 ∨ 22 < x.toInt := by
  refine (sw_core (x := x) (n := 23) (by decide) (fun k hk => ?_)).imp id (fun h => by omega)
  rcases Nat.lt_or_eq_of_le (Nat.le_of_lt_succ hk) with hk | rfl
  rotate_left
  · exact q22
  rcases Nat.lt_or_eq_of_le (Nat.le_of_lt_succ hk) with hk | rfl
  rotate_left
  · exact q21
  rcases Nat.lt_or_eq_of_le (Nat.le_of_lt_succ hk) with hk | rfl
  rotate_left
  · exact q20
  rcases Nat.lt_or_eq_of_le (Nat.le_of_lt_succ hk) with hk | rfl
  rotate_left
  · exact q19
  rcases Nat.lt_or_eq_of_le (Nat.le_of_lt_succ hk) with hk | rfl
  rotate_left
  · exact q18
  rcases Nat.lt_or_eq_of_le (Nat.le_of_lt_succ hk) with hk | rfl
  rotate_left
  · exact q17
  rcases Nat.lt_or_eq_of_le (Nat.le_of_lt_succ hk) with hk | rfl
  rotate_left
  · exact q16
  rcases Nat.lt_or_eq_of_le (Nat.le_of_lt_succ hk) with hk | rfl
  rotate_left
  · exact q15
  rcases Nat.lt_or_eq_of_le (Nat.le_of_lt_succ hk) with hk | rfl
  rotate_left
  · exact q14
  rcases Nat.lt_or_eq_of_le (Nat.le_of_lt_succ hk) with hk | rfl
  rotate_left
  · exact q13
  rcases Nat.lt_or_eq_of_le (Nat.le_of_lt_succ hk) with hk | rfl
  rotate_left
  · exact q12
  rcases Nat.lt_or_eq_of_le (Nat.le_of_lt_succ hk) with hk | rfl
  rotate_left
  · exact q11
  rcases Nat.lt_or_eq_of_le (Nat.le_of_lt_succ hk) with hk | rfl
  rotate_left
  · exact q10
  rcases Nat.lt_or_eq_of_le (Nat.le_of_lt_succ hk) with hk | rfl
  rotate_left
  · exact q9
  rcases Nat.lt_or_eq_of_le (Nat.le_of_lt_succ hk) with hk | rfl
  rotate_left
  · exact q8
  rcases Nat.lt_or_eq_of_le (Nat.le_of_lt_succ hk) with hk | rfl
  rotate_left
  · exact q7
  rcases Nat.lt_or_eq_of_le (Nat.le_of_lt_succ hk) with hk | rfl
  rotate_left
  · exact q6
  rcases Nat.lt_or_eq_of_le (Nat.le_of_lt_succ hk) with hk | rfl
  rotate_left
  · exact q5
  rcases Nat.lt_or_eq_of_le (Nat.le_of_lt_succ hk) with hk | rfl
  rotate_left
  · exact q4
  rcases Nat.lt_or_eq_of_le (Nat.le_of_lt_succ hk) with hk | rfl
  rotate_left
  · exact q3
  rcases Nat.lt_or_eq_of_le (Nat.le_of_lt_succ hk) with hk | rfl
  rotate_left
  · exact q2
  rcases Nat.lt_or_eq_of_le (Nat.le_of_lt_succ hk) with hk | rfl
  rotate_left
  · exact q1
  obtain rfl : k = 0 := by omega
  exact q0
theorem sw_out24 {x : Int32} (q0 : ¬ x = 0) (q1 : ¬ x = 1) (q2 : ¬ x = 2) (q3 : ¬ x = 3) (q4 : ¬ x = 4) (q5 : ¬ x = 5) (q6 : ¬ x = 6) (q7 : ¬ x = 7) (q8 : ¬ x = 8) (q9 : ¬ x = 9) (q10 : ¬ x = 10) (q11 : ¬ x = 11) (q12 : ¬ x = 12) (q13 : ¬ x = 13) (q14 : ¬ x = 14) (q15 : ¬ x = 15) (q16 : ¬ x = 16) (q17 : ¬ x = 17) (q18 : ¬ x = 18) (q19 : ¬ x = 19) (q20 : ¬ x = 20) (q21 : ¬ x = 21) (q22 : ¬ x = 22) (q23 : ¬ x = 23) : x.toInt < 0 ∨ 23 < x.toInt := by
  refine (sw_core (x := x) (n := 24) (by decide) (fun k hk => ?_)).imp id (fun h => by omega)
  rcases Nat.lt_or_eq_of_le (Nat.le_of_lt_succ hk) with hk | rfl
  rotate_left
  · exact q23
  rcases Nat.lt_or_eq_of_le (Nat.le_of_lt_succ hk) with hk | rfl
  rotate_left
  · exact q22
  rcases Nat.lt_or_eq_of_le (Nat.le_of_lt_succ hk) with hk | rfl
  rotate_left
  · exact q21
  rcases Nat.lt_or_eq_of_le (Nat.le_of_lt_succ hk) with hk | rfl
  rotate_left
  · exact q20
  rcases Nat.lt_or_eq_of_le (Nat.le_of_lt_succ hk) with hk | rfl
  rotate_left
  · exact q19
  rcases Nat.lt_or_eq_of_le (Nat.le_of_lt_succ hk) with hk | rfl
  rotate_left
  · exact q18
  rcases Nat.lt_or_eq_of_le (Nat.le_of_lt_succ hk) with hk | rfl
  rotate_left
  · exact q17
  rcases Nat.lt_or_eq_of_le (Nat.le_of_lt_succ hk) with hk | rfl
  rotate_left
  · exact q16
  rcases Nat.lt_or_eq_of_le (Nat.le_of_lt_succ hk) with hk | rfl
  rotate_left
  · exact q15
  rcases Nat.lt_or_eq_of_le (Nat.le_of_lt_succ hk) with hk | rfl
  rotate_left
  · exact q14
  rcases Nat.lt_or_eq_of_le (Nat.le_of_lt_succ hk) with hk | rfl
  rotate_left
  · exact q13
  rcases Nat.lt_or_eq_of_le (Nat.le_of_lt_succ hk) with hk | rfl
  rotate_left
  · exact q12
  rcases Nat.lt_or_eq_of_le (Nat.le_of_lt_succ hk) with hk | rfl
  rotate_left
  · exact q11
  rcases Nat.lt_or_eq_of_le (Nat.le_of_lt_succ hk) with hk | rfl
  rotate_left
  · exact q10
  rcases Nat.lt_or_eq_of_le (Nat.le_of_lt_succ hk) with hk | rfl
  rotate_left
  · exact q9
  rcases Nat.lt_or_eq_of_le (Nat.le_of_lt_succ hk) with hk | rfl
  rotate_left
  · exact q8
  rcases Nat.lt_or_eq_of_le (Nat.le_of_lt_succ hk) with hk | rfl
  rotate_left
  · exact q7
  rcases Nat.lt_or_eq_of_le (Nat.le_of_lt_succ hk) with hk | rfl
  rotate_left
  · exact q6
  rcases Nat.lt_or_eq_of_le (Nat.le_of_lt_succ hk) with hk | rfl
  rotate_left
  · exact q5
  rcases Nat.lt_or_eq_of_le (Nat.le_of_lt_succ hk) with hk | rfl
  rotate_left
  · exact q4
  rcases Nat.lt_or_eq_of_le (Nat.le_of_lt_succ hk) with hk | rfl
  rotate_left
  · exact q3
  rcases Nat.lt_or_eq_of_le (Nat.le_of_lt_succ hk) with hk | rfl
  rotate_left
  · exact q2
  rcases Nat.lt_or_eq_of_le (Nat.le_of_lt_succ hk) with hk | rfl
  rotate_left
  · exact q1
  obtain rfl : k = 0 := by omega
  exact q0
end
section
/-! THE FUNCTIONAL LAYER: words of the specification -/
theorem ixn {i : Nat} (h : i < 2 ^ 31) : ix (nI i) = i := nI_clamp h
/-- the first place from i on, among k, where p holds -/
def fnd (p : Nat → Bool) : Nat → Nat → Option Nat
  | 0, _ => none
  | k + 1, i => if p i then some i else fnd p k (i + 1)
def oI : Option Nat → Int32
  | none => -1
  | some i => nI i
theorem fnd_congr {p q : Nat → Bool} : ∀ {k i : Nat}, (∀ j, i ≤ j → j < i + k → p j = q j) → fnd p k i = fnd q k i
  | 0, _, _ => rfl
  | k + 1, i, h => by
    rw [fnd, fnd, h i (Nat.le_refl i) (by omega), fnd_congr (k := k) (i := i + 1) (fun j h1 h2 => h j (by omega) (by omega))]
theorem fnd_some {p : Nat → Bool} : ∀ {k i j : Nat}, fnd p k i = some j → i ≤ j ∧ j < i + k ∧ p j = true ∧ ∀ l, i ≤ l → l < j → p l = false
  | 0, _, _, h => by cases h
  | k + 1, i, j, h => by
    rw [fnd] at h
    by_cases hp : p i = true
    · rw [if_pos hp] at h
      cases h
      exact ⟨Nat.le_refl _, by omega, hp, fun l h1 h2 => by omega⟩
    · rw [if_neg hp] at h
      obtain ⟨a, b, c, e⟩ := fnd_some (k := k) h
      refine ⟨by omega, by omega, c, fun l h1 h2 => ?_⟩
      rcases Nat.eq_or_lt_of_le h1 with q | q
      · subst q; simpa using hp
      · exact e l q h2
theorem fnd_none {p : Nat → Bool} : ∀ {k i : Nat}, fnd p k i = none ↔ ∀ j, i ≤ j → j < i + k → p j = false
  | 0, i => by simp [fnd]; intro j h1 h2; omega
  | k + 1, i => by
    rw [fnd]
    by_cases hp : p i = true
    · rw [if_pos hp]
      constructor
      · intro h; cases h
      · intro h; rw [h i (Nat.le_refl _) (by omega)] at hp; cases hp
    · rw [if_neg hp, fnd_none (k := k)]
      constructor
      · intro h j h1 h2
        rcases Nat.eq_or_lt_of_le h1 with q | q
        · subst q; simpa using hp
        · exact h j q (by omega)
      · intro h j h1 h2; exact h j (by omega) (by omega)
theorem fnd_hit {p : Nat → Bool} {k i j : Nat} (h1 : i ≤ j) (h2 : j < i + k) (hp : p j = true) (hn : ∀ l, i ≤ l → l < j → p l = false) : fnd p k i = some j := by
  cases h : fnd p k i with
  | none => rw [fnd_none.mp h j h1 h2] at hp; cases hp
  | some z =>
    obtain ⟨a, b, c, e⟩ := fnd_some h
    rcases Nat.lt_trichotomy z j with q | q | q
    · rw [hn z a q] at c; cases c
    · rw [q]
    · rw [e j h1 q] at hp; cases hp
/-- sums and counts below n -/
def sI (f : Nat → Int32) : Nat → Int32
  | 0 => 0
  | n + 1 => sI f n + f n
def cN (p : Nat → Bool) : Nat → Nat
  | 0 => 0
  | n + 1 => cN p n + if p n then 1 else 0
theorem sI_congr {f h : Nat → Int32} : ∀ {n : Nat}, (∀ k, k < n → f k = h k) → sI f n = sI h n
  | 0, _ => rfl
  | n + 1, e => by rw [sI, sI, sI_congr (n := n) (fun k hk => e k (by omega)), e n (by omega)]
theorem cN_congr {f h : Nat → Bool} : ∀ {n : Nat}, (∀ k, k < n → f k = h k) → cN f n = cN h n
  | 0, _ => rfl
  | n + 1, e => by rw [cN, cN, cN_congr (n := n) (fun k hk => e k (by omega)), e n (by omega)]
theorem cN_le (p : Nat → Bool) : ∀ n, cN p n ≤ n
  | 0 => Nat.le_refl 0
  | n + 1 => by have := cN_le p n; rw [cN]; split <;> omega
/-- a loop that counts up to N, with a state beside -/
theorem Wq.up {g : GG} {d : Nat} {M : MD} {c n pc : Nat} {Q : Ou → PM → Nat → Nat → Prop} {S : Type} (N : Nat) (L : Nat → S → List (Option PV)) (mem : Nat → S → PM) (I : Nat → S → Prop) (hx : ∀ s, I N s → Wq g d M c n pc (L N s) [] (mem N s) Q) (hs : ∀ i s, i < N → I i s → (∀ s', I (i + 1) s' → Wq g d M c n pc (L (i + 1) s') [] (mem (i + 1) s') Q) → Wq g d M c n pc (L i s) [] (mem i s) Q) : ∀ (i : Nat) (s : S), i ≤ N → I i s → Wq g d M c n pc (L i s) [] (mem i s) Q := by
  intro i s hi hI
  obtain ⟨k, hk⟩ : ∃ k, i + k = N := ⟨N - i, by omega⟩
  induction k generalizing i s with
  | zero =>
    have e : i = N := by omega
    subst e
    exact hx s hI
  | succ k ih => exact hs i s (by omega) hI (fun s' h' => ih (i + 1) s' (by omega) h' (by omega))
theorem geL {N i : Nat} (h : N ≤ i) (hi : i < 2 ^ 31) : nI N ≤ nI i := nI_le h hi
theorem ngeL {N i : Nat} (h : i < N) (hN : N < 2 ^ 31) : ¬ nI N ≤ nI i := nI_ge h hN
end
section
/-! THE OFFICE, what only reads: answers as functions of the office's own rows -/
theorem ix_1 : ix (1 : Int32) = 1 := by decide
theorem dv16 {i : Nat} (h : i < 2 ^ 31) : nI i / 16 = nI (i / 16) := pk_div h (by decide) (by decide)
theorem dv4 {i : Nat} (h : i < 2 ^ 31) : nI i / 4 = nI (i / 4) := pk_div h (by decide) (by decide)
theorem rm4 {i : Nat} (h : i < 2 ^ 31) : irm (nI i) 4 = nI (i % 4) := pk_rem h (by decide) (by decide)
/-- may a pupil meet an examiner; may a pupil come in so many days; can a cell be had -/
def cMeet (τ : Nat → Nat → Nat → Int32) (p e : Nat) : Bool := decide (τ 1 0 1 = 0 ∨ ¬ τ 4 p 4 = nI e)
def cCome (τ : Nat → Nat → Nat → Int32) (p D : Nat) : Bool := decide (¬ (τ 0 0 0 + nI D) < τ 4 p 2)
def cCan (τ : Nat → Nat → Nat → Int32) (p i : Nat) : Bool := decide (τ 2 0 i = -1) && (cCome τ p (i / 16) && cMeet τ p (i % 4))
def cAhead (τ : Nat → Nat → Nat → Int32) (q p : Nat) : Bool := decide (((τ 4 p 5) < (τ 4 q 5)) ∨ (((τ 4 q 5) = (τ 4 p 5)) ∧ (¬ (τ 4 p 6) ≤ (τ 4 q 6))))
def cPlace (τ : Nat → Nat → Nat → Int32) (P p : Nat) : Nat := cN (fun q => decide (τ 4 q 0 = 1) && cAhead τ q p) P
def cOut (τ : Nat → Nat → Nat → Int32) (E p G : Nat) : Bool := (fnd (fun e => !G.testBit e && cMeet τ p e) E 0).isSome
def cFreeG (τ : Nat → Nat → Nat → Int32) (D G : Nat) : Nat := cN (fun i => decide (τ 2 0 (16 * D + i) = -1) && G.testBit (i % 4)) 16
def cKept (τ : Nat → Nat → Nat → Int32) (E P D G : Nat) : Nat := cN (fun p => (decide (τ 4 p 0 = 0) || decide (τ 4 p 0 = 1)) && (cCome τ p D && cOut τ E p G)) P
def cMost (τ : Nat → Nat → Nat → Int32) (E P D : Nat) : Nat → Nat
  | 0 => 12
  | G + 1 => if cFreeG τ D G + cKept τ E P D G < cMost τ E P D G then cFreeG τ D G + cKept τ E P D G else cMost τ E P D G
def cLeast (t : Nat → Int32) (av : Int32) : Nat → Nat → Nat → Nat
  | 0, _, b => b
  | k + 1, i, b => if nI i = av then cLeast t av k (i + 1) b else if t b ≤ t i then cLeast t av k (i + 1) b else cLeast t av k (i + 1) i
def cRoute (t : Nat → Int32) (av : Int32) : Nat := if av = 0 then cLeast t av 2 2 1 else cLeast t av 3 1 0
theorem in_group : ∀ G, G < 16 → ∀ e, e < 4 → (((nI G >>> (nI e &&& 31)) &&& 1) = 1 ↔ G.testBit e = true) := by decide +kernel
section O1
variable {g : GG} {d : Nat} {c n : Nat} {m : PM} {Q : Ou → PM → Nat → Nat → Prop} {r : Nat}
theorem co_cellOf {x1 : Int32} (h : Q (.inl (some (pI (oI (fnd (fun i => decide (m.1 r 2 0 i = x1)) 160 0))))) m c n) : Wq g d MX1_cellOf c n 0 [some (pO 0 r 0), some (pI x1)] [] m Q := by
  refine sgX1_cellOf ?_
  refine Wq.up (S := Unit) 160 (fun i _ => [some (pO 0 r 0), some (pI x1), some (pI (nI i))]) (fun _ _ => m) (fun i _ => Q (.inl (some (pI (oI (fnd (fun i => decide (m.1 r 2 0 i = x1)) (160 - i) i))))) m c n) (fun _ hI => ?_) (fun i _ hi hI ih => ?_) 0 () (by omega) h
  · exact sgX1_cellOf_2 ⟨fun _ => hI, fun q => absurd (geL (Nat.le_refl 160) (by decide)) q⟩
  · refine sgX1_cellOf_2 ⟨fun q => absurd q (ngeL hi (by decide)), fun _ => ⟨vp_in_nI hi (by decide), fun q => ?_, fun q => ?_⟩⟩
    · rw [ixn (by omega)] at q
      rw [nI_1]
      refine ih () ?_
      rw [show 160 - i = (160 - (i + 1)) + 1 by omega, fnd, if_neg (by simpa using q)] at hI
      exact hI
    · rw [ixn (by omega)] at q
      rw [show 160 - i = (160 - (i + 1)) + 1 by omega, fnd, if_pos (by simpa using q)] at hI
      exact hI
theorem co_earliestCell {p : Nat} (hp : p < 12) (h : Q (.inl (some (pI (oI (fnd (cCan (m.1 r) p) 160 0))))) m c n) : Wq g (d + 1) MX1_earliestCell c n 0 [some (pO 0 r 0), some (pI (nI p))] [] m Q := by
  refine sgX1_earliestCell ?_
  refine Wq.up (S := Unit) 160 (fun i _ => [some (pO 0 r 0), some (pI (nI p)), some (pI (nI i))]) (fun _ _ => m) (fun i _ => Q (.inl (some (pI (oI (fnd (cCan (m.1 r) p) (160 - i) i))))) m c n) (fun _ hI => ?_) (fun i _ hi hI ih => ?_) 0 () (by omega) h
  · exact sgX1_earliestCell_2 ⟨fun _ => hI, fun q => absurd (geL (Nat.le_refl 160) (by decide)) q⟩
  · have hp12 : vp_in (nI p) 12 := vp_in_nI hp (by decide)
    rw [show 160 - i = (160 - (i + 1)) + 1 by omega, fnd] at hI
    have no : ¬ cCan (m.1 r) p i = true → Wq g (d + 1) MX1_earliestCell c n 2 [some (pO 0 r 0), some (pI (nI p)), some (pI (nI i + 1))] [] m Q := fun hc => by
      rw [if_neg hc] at hI
      rw [nI_1]
      exact ih () hI
    refine sgX1_earliestCell_2 ⟨fun q => absurd q (ngeL hi (by decide)), fun _ => ⟨vp_in_nI hi (by decide), fun q => no ?_, fun q => ⟨⟨hp12, trivial⟩, fun q2 => no ?_, fun q2 => ⟨fun _ => ⟨hp12, trivial⟩, fun q3 => no ?_, fun q3 => ?_⟩⟩⟩⟩
    all_goals simp only [ixn (show i < 2 ^ 31 by omega), ixn (show p < 2 ^ 31 by omega), dv16 (show i < 2 ^ 31 by omega), rm4 (show i < 2 ^ 31 by omega), ix_1] at *
    · simp [cCan, q]
    · simp only [cCan, cCome, Bool.and_eq_true, decide_eq_true_eq]
      exact fun z => q2 z.2.1
    · simp only [cCan, cMeet, Bool.and_eq_true, decide_eq_true_eq]
      exact fun z => q3 z.2.2
    · rw [if_pos (by simp only [cCan, cCome, cMeet, Bool.and_eq_true, decide_eq_true_eq]; exact ⟨q, q2, q3⟩)] at hI
      exact hI
theorem co_cellsOfExaminer {e : Nat} {x2 : Int32} (he : e < 4) (h : Q (.inl (some (pI (nI (cN (fun k => decide (m.1 r 2 0 (4 * k + e) = x2)) 40))))) m c n) : Wq g d MX1_cellsOfExaminer c n 0 [some (pO 0 r 0), some (pI (nI e)), some (pI x2)] [] m Q := by
  refine sgX1_cellsOfExaminer ?_
  have := Wq.up (g := g) (d := d) (M := MX1_cellsOfExaminer) (c := c) (n := n) (pc := 5) (Q := Q) (S := Unit) 40 (fun k _ => [some (pO 0 r 0), none, some (pI x2), some (pI (nI (cN (fun k => decide (m.1 r 2 0 (4 * k + e) = x2)) k))), some (pI (nI (4 * k + e)))]) (fun _ _ => m) (fun _ _ => True) (fun _ hI => ?_) (fun k _ hk hI ih => ?_) 0 () (by omega) trivial
  · rw [Nat.mul_zero, Nat.zero_add] at this
    exact this
  · exact sgX1_cellsOfExaminer_5 ⟨fun _ => h, fun q => absurd (geL (show 160 ≤ 4 * 40 + e by omega) (by omega)) q⟩
  · have hN : nI (4 * k + e) + 4 = nI (4 * (k + 1) + e) := by
      rw [show (4 : Int32) = nI 4 from rfl, nI_add, show 4 * k + e + 4 = 4 * (k + 1) + e by omega]
    refine sgX1_cellsOfExaminer_5 ⟨fun q => absurd q (ngeL (show 4 * k + e < 160 by omega) (by decide)), fun _ => ⟨vp_in_nI (show 4 * k + e < 160 by omega) (by decide), fun q => ?_, fun q => ?_⟩⟩
    · rw [ixn (by omega)] at q
      have := ih () trivial
      rw [cN, if_neg (by simpa using q)] at this
      rw [hN]
      exact this
    · rw [ixn (by omega)] at q
      have := ih () trivial
      rw [cN, if_pos (by simpa using q)] at this
      rw [hN, nI_1]
      exact this
theorem co_pupilsWho {x1 : Int32} {P : Nat} (hP : m.1 r 0 0 2 = nI P) (hP12 : P ≤ 12) (h : Q (.inl (some (pI (nI (cN (fun p => decide (m.1 r 4 p 0 = x1)) P))))) m c n) : Wq g d MX1_pupilsWho c n 0 [some (pO 0 r 0), some (pI x1)] [] m Q := by
  refine sgX1_pupilsWho ?_
  refine Wq.up (S := Unit) P (fun i _ => [some (pO 0 r 0), some (pI x1), some (pI (nI (cN (fun p => decide (m.1 r 4 p 0 = x1)) i))), some (pI (nI i))]) (fun _ _ => m) (fun i _ => True) (fun _ hI => ?_) (fun i _ hi hI ih => ?_) 0 () (by omega) trivial
  · exact sgX1_pupilsWho_4 ⟨fun _ => h, fun q => absurd (by rw [hP]; exact geL (Nat.le_refl P) (by omega)) q⟩
  · refine sgX1_pupilsWho_4 ⟨fun q => absurd (by rw [← hP]; exact q) (ngeL hi (by omega)), fun _ => ⟨vp_in_nI (show i < 12 by omega) (by decide), fun q => ?_, fun q => ?_⟩⟩
    · rw [ixn (by omega)] at q
      have := ih () trivial
      rw [cN, if_neg (by simpa using q)] at this
      rw [nI_1]
      exact this
    · rw [ixn (by omega)] at q
      have := ih () trivial
      rw [cN, if_pos (by simpa using q)] at this
      rw [nI_1, nI_1]
      exact this
theorem co_moneyTaken {P : Nat} (hP : m.1 r 0 0 2 = nI P) (hP12 : P ≤ 12) (h : Q (.inl (some (pI (sI (fun p => m.1 r 4 p 7) P)))) m c n) : Wq g d MX1_moneyTaken c n 0 [some (pO 0 r 0)] [] m Q := by
  refine sgX1_moneyTaken ?_
  refine Wq.up (S := Unit) P (fun i _ => [some (pO 0 r 0), some (pI (sI (fun p => m.1 r 4 p 7) i)), some (pI (nI i))]) (fun _ _ => m) (fun i _ => True) (fun _ hI => ?_) (fun i _ hi hI ih => ?_) 0 () (by omega) trivial
  · exact sgX1_moneyTaken_4 ⟨fun _ => h, fun q => absurd (by rw [hP]; exact geL (Nat.le_refl P) (by omega)) q⟩
  · refine sgX1_moneyTaken_4 ⟨fun q => absurd (by rw [← hP]; exact q) (ngeL hi (by omega)), fun _ => ⟨vp_in_nI (show i < 12 by omega) (by decide), ?_⟩⟩
    rw [nI_1, ixn (by omega)]
    exact ih () trivial
theorem co_movedSoFar {P : Nat} (hP : m.1 r 0 0 2 = nI P) (hP12 : P ≤ 12) (h : Q (.inl (some (pI (sI (fun p => m.1 r 4 p 5) P)))) m c n) : Wq g d MX1_movedSoFar c n 0 [some (pO 0 r 0)] [] m Q := by
  refine sgX1_movedSoFar ?_
  refine Wq.up (S := Unit) P (fun i _ => [some (pO 0 r 0), some (pI (sI (fun p => m.1 r 4 p 5) i)), some (pI (nI i))]) (fun _ _ => m) (fun i _ => True) (fun _ hI => ?_) (fun i _ hi hI ih => ?_) 0 () (by omega) trivial
  · exact sgX1_movedSoFar_4 ⟨fun _ => h, fun q => absurd (by rw [hP]; exact geL (Nat.le_refl P) (by omega)) q⟩
  · refine sgX1_movedSoFar_4 ⟨fun q => absurd (by rw [← hP]; exact q) (ngeL hi (by omega)), fun _ => ⟨vp_in_nI (show i < 12 by omega) (by decide), ?_⟩⟩
    rw [nI_1, ixn (by omega)]
    exact ih () trivial
theorem co_passedSoFar {E : Nat} (hE : m.1 r 0 0 1 = nI E) (hE4 : E ≤ 4) (h : Q (.inl (some (pI (sI (fun e => m.1 r 5 e 1) E)))) m c n) : Wq g d MX1_passedSoFar c n 0 [some (pO 0 r 0)] [] m Q := by
  refine sgX1_passedSoFar ?_
  refine Wq.up (S := Unit) E (fun i _ => [some (pO 0 r 0), some (pI (sI (fun e => m.1 r 5 e 1) i)), some (pI (nI i))]) (fun _ _ => m) (fun i _ => True) (fun _ hI => ?_) (fun i _ hi hI ih => ?_) 0 () (by omega) trivial
  · exact sgX1_passedSoFar_4 ⟨fun _ => h, fun q => absurd (by rw [hE]; exact geL (Nat.le_refl E) (by omega)) q⟩
  · refine sgX1_passedSoFar_4 ⟨fun q => absurd (by rw [← hE]; exact q) (ngeL hi (by omega)), fun _ => ⟨vp_in_nI (show i < 4 by omega) (by decide), ?_⟩⟩
    rw [nI_1, ixn (by omega)]
    exact ih () trivial
theorem co_tests {e : Nat} (h : Q (.inl (some (pI (sI (m.1 r 6 e) 4)))) m c n) : Wq g d MX0_tests c n 0 [some (pO 5 r e)] [] m Q := by
  refine sgX0_tests ?_
  refine Wq.up (S := Unit) 4 (fun i _ => [some (pO 5 r e), some (pI (sI (m.1 r 6 e) i)), some (pI (nI i))]) (fun _ _ => m) (fun i _ => True) (fun _ hI => ?_) (fun i _ hi hI ih => ?_) 0 () (by omega) trivial
  · exact sgX0_tests_4 ⟨fun _ => h, fun q => absurd (geL (Nat.le_refl 4) (by decide)) q⟩
  · refine sgX0_tests_4 ⟨fun q => absurd q (ngeL hi (by decide)), fun _ => ⟨vp_in_nI hi (by decide), ?_⟩⟩
    rw [nI_1, ixn (by omega)]
    exact ih () trivial
theorem co_testsSoFar {E : Nat} (hE : m.1 r 0 0 1 = nI E) (hE4 : E ≤ 4) (h : Q (.inl (some (pI (sI (fun e => sI (m.1 r 6 e) 4) E)))) m c n) : Wq g (d + 1) MX1_testsSoFar c n 0 [some (pO 0 r 0)] [] m Q := by
  refine sgX1_testsSoFar ?_
  refine Wq.up (S := Unit) E (fun i _ => [some (pO 0 r 0), some (pI (sI (fun e => sI (m.1 r 6 e) 4) i)), some (pI (nI i))]) (fun _ _ => m) (fun i _ => True) (fun _ hI => ?_) (fun i _ hi hI ih => ?_) 0 () (by omega) trivial
  · exact sgX1_testsSoFar_4 ⟨fun _ => h, fun q => absurd (by rw [hE]; exact geL (Nat.le_refl E) (by omega)) q⟩
  · refine sgX1_testsSoFar_4 ⟨fun q => absurd (by rw [← hE]; exact q) (ngeL hi (by omega)), fun _ => ⟨vp_in_nI (show i < 4 by omega) (by decide), ?_⟩⟩
    rw [ixn (by omega)]
    refine co_tests ⟨rfl, rfl, ?_⟩
    show Wq g (d + 1) MX1_testsSoFar c n 4 [some (pO 0 r 0), some (pI (sI (fun e => sI (m.1 r 6 e) 4) i + sI (m.1 r 6 i) 4)), some (pI (nI i + 1))] [] m Q
    rw [nI_1]
    exact ih () trivial
theorem co_freeSlots {E : Nat} (hE : m.1 r 0 0 1 = nI E) (hE4 : E ≤ 4) (h : Q (.inl (some (pI (sI (fun e => nI (cN (fun k => decide (m.1 r 2 0 (4 * k + e) = -1)) 40)) E)))) m c n) : Wq g (d + 1) MX1_freeSlots c n 0 [some (pO 0 r 0)] [] m Q := by
  refine sgX1_freeSlots ?_
  refine Wq.up (S := Unit) E (fun i _ => [some (pO 0 r 0), some (pI (sI (fun e => nI (cN (fun k => decide (m.1 r 2 0 (4 * k + e) = -1)) 40)) i)), some (pI (nI i))]) (fun _ _ => m) (fun i _ => True) (fun _ hI => ?_) (fun i _ hi hI ih => ?_) 0 () (by omega) trivial
  · exact sgX1_freeSlots_4 ⟨fun _ => h, fun q => absurd (by rw [hE]; exact geL (Nat.le_refl E) (by omega)) q⟩
  · refine sgX1_freeSlots_4 ⟨fun q => absurd (by rw [← hE]; exact q) (ngeL hi (by omega)), fun _ => ?_⟩
    refine co_cellsOfExaminer (show i < 4 by omega) ⟨rfl, rfl, ?_⟩
    show Wq g (d + 1) MX1_freeSlots c n 4 [some (pO 0 r 0), some (pI (sI (fun e => nI (cN (fun k => decide (m.1 r 2 0 (4 * k + e) = -1)) 40)) i + nI (cN (fun k => decide (m.1 r 2 0 (4 * k + i) = -1)) 40))), some (pI (nI i + 1))] [] m Q
    rw [nI_1]
    exact ih () trivial
/-- a cell tells a pupil -/
def isPu (P : Nat) (x : Int32) : Bool := decide ((¬ x < 0) ∧ (¬ nI P ≤ x))
theorem co_daysToAllSlots {P : Nat} (hP : m.1 r 0 0 2 = nI P) (h : Q (.inl (some (pI (sI (fun i => if isPu P (m.1 r 2 0 i) then nI (i / 16) else 0) 160)))) m c n) : Wq g (d + 1) MX1_daysToAllSlots c n 0 [some (pO 0 r 0)] [] m Q := by
  refine sgX1_daysToAllSlots ?_
  refine Wq.up (S := Unit) 160 (fun i _ => [some (pO 0 r 0), some (pI (sI (fun i => if isPu P (m.1 r 2 0 i) then nI (i / 16) else 0) i)), some (pI (nI i))]) (fun _ _ => m) (fun i _ => True) (fun _ hI => ?_) (fun i _ hi hI ih => ?_) 0 () (by omega) trivial
  · exact sgX1_daysToAllSlots_4 ⟨fun _ => h, fun q => absurd (geL (Nat.le_refl 160) (by decide)) q⟩
  · have := ih () trivial
    refine sgX1_daysToAllSlots_4 ⟨fun q => absurd q (ngeL hi (by decide)), fun _ => ⟨vp_in_nI hi (by decide), fun q => ?_, fun q => ?_⟩⟩
    all_goals rw [ixn (by omega), hP] at q
    · rw [nI_1]
      rw [sI, if_neg (by simpa only [isPu, decide_eq_true_eq] using q), show ∀ x : Int32, x + 0 = x from fun x => by simp] at this
      exact this
    · rw [nI_1, dv16 (by omega)]
      rw [sI, if_pos (by simpa only [isPu, decide_eq_true_eq] using q)] at this
      exact this
theorem co_placeInQueue {P p : Nat} (hP : m.1 r 0 0 2 = nI P) (hP12 : P ≤ 12) (hp : p < 12) (h : Q (.inl (some (pI (if m.1 r 4 p 0 = 1 then nI (cPlace (m.1 r) P p) else -1)))) m c n) : Wq g (d + 1) MX1_placeInQueue c n 0 [some (pO 0 r 0), some (pI (nI p))] [] m Q := by
  refine sgX1_placeInQueue ⟨vp_in_nI hp (by decide), fun q => ?_, fun q => ?_⟩
  · rw [ixn (by omega)] at q
    rw [if_pos q] at h
    rw [ixn (by omega)]
    refine Wq.up (S := Unit) P (fun i _ => [some (pO 0 r 0), none, some (pO 4 r p), some (pI (nI (cN (fun q => decide (m.1 r 4 q 0 = 1) && cAhead (m.1 r) q p) i))), some (pI (nI i))]) (fun _ _ => m) (fun i _ => True) (fun _ hI => ?_) (fun i _ hi hI ih => ?_) 0 () (by omega) trivial
    · exact sgX1_placeInQueue_22 ⟨fun _ => h, fun q => absurd (by rw [hP]; exact geL (Nat.le_refl P) (by omega)) q⟩
    · have := ih () trivial
      refine sgX1_placeInQueue_22 ⟨fun q => absurd (by rw [← hP]; exact q) (ngeL hi (by omega)), fun _ => ⟨vp_in_nI (show i < 12 by omega) (by decide), fun q => ?_, fun q => ⟨vp_in_nI (show i < 12 by omega) (by decide), fun q2 => ?_, fun q2 => ?_⟩⟩⟩
      · rw [ixn (by omega)] at q
        rw [nI_1]
        rw [cN, if_neg (by simp [q])] at this
        exact this
      · rw [ixn (by omega)] at q q2
        rw [nI_1]
        rw [cN, if_neg (by simp only [cAhead, Bool.and_eq_true, decide_eq_true_eq]; exact fun z => q2 z.2)] at this
        exact this
      · rw [ixn (by omega)] at q q2
        rw [nI_1, nI_1]
        rw [cN, if_pos (by simp only [cAhead, Bool.and_eq_true, decide_eq_true_eq]; exact ⟨q, q2⟩)] at this
        exact this
  · rw [ixn (by omega)] at q
    rw [if_neg q] at h
    exact h
theorem co_mayMeetOutside {E p G : Nat} (hE : m.1 r 0 0 1 = nI E) (hE4 : E ≤ 4) (hp : p < 12) (hG : G < 16) (h : Q (.inl (some (pI (if cOut (m.1 r) E p G then 1 else 0)))) m c n) : Wq g (d + 1) MX1_mayMeetOutside c n 0 [some (pO 0 r 0), some (pI (nI p)), some (pI (nI G))] [] m Q := by
  refine sgX1_mayMeetOutside ?_
  refine Wq.up (S := Unit) E (fun i _ => [some (pO 0 r 0), some (pI (nI p)), some (pI (nI G)), some (pI (nI i))]) (fun _ _ => m) (fun i _ => Q (.inl (some (pI (if (fnd (fun e => !G.testBit e && cMeet (m.1 r) p e) (E - i) i).isSome then 1 else 0)))) m c n) (fun _ hI => ?_) (fun i _ hi hI ih => ?_) 0 () (by omega) h
  · rw [Nat.sub_self] at hI
    exact sgX1_mayMeetOutside_2 ⟨fun _ => hI, fun q => absurd (by rw [hE]; exact geL (Nat.le_refl E) (by omega)) q⟩
  · rw [show E - i = (E - (i + 1)) + 1 by omega, fnd] at hI
    have no : ¬ (!G.testBit i && cMeet (m.1 r) p i) = true → Wq g (d + 1) MX1_mayMeetOutside c n 2 [some (pO 0 r 0), some (pI (nI p)), some (pI (nI G)), some (pI (nI i + 1))] [] m Q := fun hc => by
      rw [if_neg hc] at hI
      rw [nI_1]
      exact ih () hI
    refine sgX1_mayMeetOutside_2 ⟨fun q => absurd (by rw [← hE]; exact q) (ngeL hi (by omega)), fun _ => ⟨fun q => no ?_, fun q => ⟨fun _ => ⟨vp_in_nI hp (by decide), trivial⟩, fun q2 => no ?_, fun q2 => ?_⟩⟩⟩
    · rw [in_group G hG i (by omega)] at q
      simp [q]
    · rw [ixn (by omega), ix_1] at q2
      simp only [cMeet, Bool.and_eq_true, decide_eq_true_eq]
      exact fun z => q2 z.2
    · rw [ixn (by omega), ix_1] at q2
      rw [in_group G hG i (by omega)] at q
      have hb : G.testBit i = false := by simpa using q
      have hm : cMeet (m.1 r) p i = true := by simp only [cMeet, decide_eq_true_eq]; exact q2
      rw [if_pos (by rw [hb, hm]; rfl)] at hI
      exact hI
theorem co_freeSlotsOfGroup {G D : Nat} (hG : G < 16) (hD : D < 10) (h : Q (.inl (some (pI (nI (cFreeG (m.1 r) D G))))) m c n) : Wq g (d + 1) MX1_freeSlotsOfGroup c n 0 [some (pO 0 r 0), some (pI (nI G)), some (pI (nI D))] [] m Q := by
  refine sgX1_freeSlotsOfGroup ?_
  refine Wq.up (S := Unit) 16 (fun i _ => [some (pO 0 r 0), some (pI (nI G)), some (pI (nI D)), some (pI (nI (cN (fun i => decide (m.1 r 2 0 (16 * D + i) = -1) && G.testBit (i % 4)) i))), some (pI (nI i))]) (fun _ _ => m) (fun i _ => True) (fun _ hI => ?_) (fun i _ hi hI ih => ?_) 0 () (by omega) trivial
  · exact sgX1_freeSlotsOfGroup_5 ⟨fun _ => h, fun q => absurd (geL (Nat.le_refl 16) (by decide)) q⟩
  · have := ih () trivial
    have ei : nI D * 16 + nI i = nI (16 * D + i) := by
      rw [show (16 : Int32) = nI 16 from rfl, pk_mul, nI_add, Nat.mul_comm]
    have hb : 16 * D + i < 160 := by omega
    refine sgX1_freeSlotsOfGroup_5 ⟨fun q => absurd q (ngeL hi (by decide)), fun _ => ⟨by rw [ei]; exact vp_in_nI hb (by decide), fun q => ?_, fun q => ⟨fun q2 => ?_, fun q2 => ?_⟩⟩⟩
    · rw [ei, ixn (by omega)] at q
      rw [nI_1]
      rw [cN, if_neg (by simp [q])] at this
      exact this
    · rw [rm4 (by omega), in_group G hG (i % 4) (by omega)] at q2
      rw [nI_1]
      rw [cN, if_neg (by simp [q2])] at this
      exact this
    · rw [rm4 (by omega), in_group G hG (i % 4) (by omega)] at q2
      rw [ei, ixn (by omega)] at q
      rw [nI_1, nI_1]
      rw [cN, if_pos (by simp [q, q2])] at this
      exact this
theorem co_pupilsNotKeptTo {E P G D : Nat} (hE : m.1 r 0 0 1 = nI E) (hE4 : E ≤ 4) (hP : m.1 r 0 0 2 = nI P) (hP12 : P ≤ 12) (hG : G < 16) (h : Q (.inl (some (pI (nI (cKept (m.1 r) E P D G))))) m c n) : Wq g (d + 2) MX1_pupilsNotKeptTo c n 0 [some (pO 0 r 0), some (pI (nI G)), some (pI (nI D))] [] m Q := by
  refine sgX1_pupilsNotKeptTo ?_
  refine Wq.up (S := Unit) P (fun i _ => [some (pO 0 r 0), some (pI (nI G)), some (pI (nI D)), some (pI (nI (cN (fun p => (decide (m.1 r 4 p 0 = 0) || decide (m.1 r 4 p 0 = 1)) && (cCome (m.1 r) p D && cOut (m.1 r) E p G)) i))), some (pI (nI i)), none, none]) (fun _ _ => m) (fun i _ => True) (fun _ hI => ?_) (fun i _ hi hI ih => ?_) 0 () (by omega) trivial
  · exact sgX1_pupilsNotKeptTo_5 ⟨fun _ => h, fun q => absurd (by rw [hP]; exact geL (Nat.le_refl P) (by omega)) q⟩
  · have := ih () trivial
    have hi12 : vp_in (nI i) 12 := vp_in_nI (show i < 12 by omega) (by decide)
    have no : ¬ ((decide (m.1 r 4 i 0 = 0) || decide (m.1 r 4 i 0 = 1)) && (cCome (m.1 r) i D && cOut (m.1 r) E i G)) = true → Wq g (d + 2) MX1_pupilsNotKeptTo c n 5 [some (pO 0 r 0), some (pI (nI G)), some (pI (nI D)), some (pI (nI (cN (fun p => (decide (m.1 r 4 p 0 = 0) || decide (m.1 r 4 p 0 = 1)) && (cCome (m.1 r) p D && cOut (m.1 r) E p G)) i))), some (pI (nI i + 1)), none, none] [] m Q := fun hc => by
      rw [nI_1]
      rw [cN, if_neg hc] at this
      exact this
    have yes : ((decide (m.1 r 4 i 0 = 0) || decide (m.1 r 4 i 0 = 1)) && (cCome (m.1 r) i D && cOut (m.1 r) E i G)) = true → Wq g (d + 2) MX1_pupilsNotKeptTo c n 5 [some (pO 0 r 0), some (pI (nI G)), some (pI (nI D)), some (pI (nI (cN (fun p => (decide (m.1 r 4 p 0 = 0) || decide (m.1 r 4 p 0 = 1)) && (cCome (m.1 r) p D && cOut (m.1 r) E p G)) i) + 1)), some (pI (nI i + 1)), none, none] [] m Q := fun hc => by
      rw [nI_1, nI_1]
      rw [cN, if_pos hc] at this
      exact this
    have tail : (m.1 r 4 i 0 = 0 ∨ m.1 r 4 i 0 = 1) → cCome (m.1 r) i D = true → Wp g (d + 1) MX1_mayMeetOutside 0 [some (pO 0 r 0), some (pI (nI i)), some (pI (nI G))] [] m (cI fun r4 m5 => ((r4 = 0 → Wq g (d + 2) MX1_pupilsNotKeptTo c n 5 [some (pO 0 r 0), some (pI (nI G)), some (pI (nI D)), some (pI (nI (cN (fun p => (decide (m.1 r 4 p 0 = 0) || decide (m.1 r 4 p 0 = 1)) && (cCome (m.1 r) p D && cOut (m.1 r) E p G)) i))), some (pI (nI i + 1)), none, none] [] m5 Q) ∧ (¬ r4 = 0 → Wq g (d + 2) MX1_pupilsNotKeptTo c n 5 [some (pO 0 r 0), some (pI (nI G)), some (pI (nI D)), some (pI (nI (cN (fun p => (decide (m.1 r 4 p 0 = 0) || decide (m.1 r 4 p 0 = 1)) && (cCome (m.1 r) p D && cOut (m.1 r) E p G)) i) + 1)), some (pI (nI i + 1)), none, none] [] m5 Q))) := fun hs hc => by
      refine co_mayMeetOutside hE hE4 (show i < 12 by omega) hG ⟨rfl, rfl, fun q => no ?_, fun q => yes ?_⟩
      · intro z
        simp only [Bool.and_eq_true] at z
        rw [if_pos z.2.2] at q
        exact absurd q (by decide)
      · simp only [Bool.and_eq_true, Bool.or_eq_true, decide_eq_true_eq]
        refine ⟨hs, hc, ?_⟩
        by_cases ho : cOut (m.1 r) E i G = true
        · exact ho
        · rw [if_neg ho] at q; exact absurd rfl q
    refine sgX1_pupilsNotKeptTo_5 ⟨fun q => absurd (by rw [← hP]; exact q) (ngeL hi (by omega)), fun _ => ⟨hi12, fun q => ⟨⟨hi12, trivial⟩, fun q2 => no ?_, fun q2 => tail (Or.inl ?_) ?_⟩, fun q => ⟨fun q1 => no ?_, fun q1 => ⟨⟨hi12, trivial⟩, fun q2 => no ?_, fun q2 => tail (Or.inr ?_) ?_⟩⟩⟩⟩
    all_goals simp only [ixn (show i < 2 ^ 31 by omega)] at *
    · simp only [cCome, Bool.and_eq_true, decide_eq_true_eq]
      exact fun z => q2 z.2.1
    · exact q
    · simp only [cCome, decide_eq_true_eq]; exact q2
    · simp [q, q1]
    · simp only [cCome, Bool.and_eq_true, decide_eq_true_eq]
      exact fun z => q2 z.2.1
    · exact q1
    · simp only [cCome, decide_eq_true_eq]; exact q2
theorem cMost_le (τ : Nat → Nat → Nat → Int32) (E P D : Nat) : ∀ k, cMost τ E P D k ≤ 12
  | 0 => Nat.le_refl 12
  | k + 1 => by
    have := cMost_le τ E P D k
    rw [cMost]
    split <;> omega
theorem co_mostWithSlotsOf {E P D : Nat} (hE : m.1 r 0 0 1 = nI E) (hE4 : E ≤ 4) (hP : m.1 r 0 0 2 = nI P) (hP12 : P ≤ 12) (hD : D < 10) (h : Q (.inl (some (pI (nI (cMost (m.1 r) E P D 16))))) m c n) : Wq g (d + 3) MX1_mostWithSlotsOf c n 0 [some (pO 0 r 0), some (pI (nI D))] [] m Q := by
  refine sgX1_mostWithSlotsOf ?_
  refine Wq.up (S := Unit) 16 (fun i _ => [some (pO 0 r 0), some (pI (nI D)), some (pI (nI (cMost (m.1 r) E P D i))), some (pI (nI i)), none]) (fun _ _ => m) (fun i _ => True) (fun _ hI => ?_) (fun i _ hi hI ih => ?_) 0 () (by omega) trivial
  · exact sgX1_mostWithSlotsOf_5 ⟨fun _ => h, fun q => absurd (geL (Nat.le_refl 16) (by decide)) q⟩
  · refine sgX1_mostWithSlotsOf_5 ⟨fun q => absurd q (ngeL hi (by decide)), fun _ => ?_⟩
    refine co_freeSlotsOfGroup hi hD ⟨rfl, rfl, ?_⟩
    refine co_pupilsNotKeptTo hE hE4 hP hP12 hi ⟨rfl, rfl, ?_⟩
    have := ih () trivial
    have h1 : cFreeG (m.1 r) D i ≤ 16 := cN_le _ 16
    have h2 : cKept (m.1 r) E P D i ≤ P := cN_le _ P
    have h3 := cMost_le (m.1 r) E P D i
    have e : (if nI (cFreeG (m.1 r) D i) + nI (cKept (m.1 r) E P D i) < nI (cMost (m.1 r) E P D i) then nI (cFreeG (m.1 r) D i) + nI (cKept (m.1 r) E P D i) else nI (cMost (m.1 r) E P D i)) = nI (cMost (m.1 r) E P D (i + 1)) := by
      rw [nI_add, cMost]
      by_cases q : cFreeG (m.1 r) D i + cKept (m.1 r) E P D i < cMost (m.1 r) E P D i
      · rw [if_pos ((nI_ltI (by omega) (by omega)).mpr q), if_pos q]
      · rw [if_neg (fun z => q ((nI_ltI (by omega) (by omega)).mp z)), if_neg q]
    show Wq g (d + 3) MX1_mostWithSlotsOf c n 5 [some (pO 0 r 0), some (pI (nI D)), some (pI (if nI (cFreeG (m.1 r) D i) + nI (cKept (m.1 r) E P D i) < nI (cMost (m.1 r) E P D i) then nI (cFreeG (m.1 r) D i) + nI (cKept (m.1 r) E P D i) else nI (cMost (m.1 r) E P D i))), some (pI (nI i + 1)), none] [] m Q
    rw [e, nI_1]
    exact this
theorem co_leastUsedRouteBut {e : Nat} {av : Int32} (h : Q (.inl (some (pI (nI (cRoute (m.1 r 6 e) av))))) m c n) : Wq g d MX0_leastUsedRouteBut c n 0 [some (pO 5 r e), some (pI av)] [] m Q := by
  have K : ∀ k i b, i + k = 4 → b < 4 → Q (.inl (some (pI (nI (cLeast (m.1 r 6 e) av k i b))))) m c n → Wq g d MX0_leastUsedRouteBut c n 14 [some (pO 5 r e), some (pI av), some (pI (nI b)), some (pI (nI i))] [] m Q := by
    intro k
    induction k with
    | zero =>
      intro i b hi hb hQ
      have ei : i = 4 := by omega
      subst ei
      exact sgX0_leastUsedRouteBut_14 ⟨fun _ => hQ, fun q => absurd (geL (Nat.le_refl 4) (by decide)) q⟩
    | succ k ih =>
      intro i b hi hb hQ
      have hi4 : i < 4 := by omega
      refine sgX0_leastUsedRouteBut_14 ⟨fun q => absurd q (ngeL hi4 (by decide)), fun _ => ⟨fun q => ?_, fun q => ⟨vp_in_nI hi4 (by decide), vp_in_nI hb (by decide), fun q2 => ?_, fun q2 => ?_⟩⟩⟩
      · rw [nI_1]
        rw [cLeast, if_pos q] at hQ
        exact ih (i + 1) b (by omega) hb hQ
      · rw [ixn (by omega), ixn (by omega)] at q2
        rw [nI_1]
        rw [cLeast, if_neg q, if_pos q2] at hQ
        exact ih (i + 1) b (by omega) hb hQ
      · rw [ixn (by omega), ixn (by omega)] at q2
        rw [nI_1]
        rw [cLeast, if_neg q, if_neg q2] at hQ
        exact ih (i + 1) i (by omega) hi4 hQ
  refine sgX0_leastUsedRouteBut ⟨fun q => ?_, fun q => ?_⟩
  · rw [cRoute, if_neg q] at h
    exact K 3 1 0 rfl (by decide) h
  · rw [cRoute, if_pos q] at h
    exact K 2 2 1 rfl (by decide) h
theorem co_routeFor {e p : Nat} (he : e < 4) (hp : p < 12) (h : Q (.inl (some (pI (nI (cRoute (m.1 r 6 e) (m.1 r 4 p 3)))))) m c n) : Wq g (d + 1) MX1_routeFor c n 0 [some (pO 0 r 0), some (pI (nI p)), some (pI (nI e))] [] m Q := by
  refine sgX1_routeFor ⟨vp_in_nI he (by decide), vp_in_nI hp (by decide), ?_⟩
  rw [ixn (by omega), ixn (by omega)]
  exact co_leastUsedRouteBut ⟨rfl, rfl, h⟩
end O1
end
