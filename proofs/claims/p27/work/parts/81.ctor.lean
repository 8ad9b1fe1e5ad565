/-! CONTRACTS OF MAKING -/
abbrev rmG (d c n : Nat) : Room := { frames := d, cells := c, slots := n, locals := 33 * d }
abbrev EndY : Type := (Nat → Nat) → (Nat → va_E) → Nat → Prop
def QcY (B : BB) (Qp : EndY) : Array Value → State → Outcome → State → Prop := fun _ st o t => (o = .returned none ∧ ∃ S' C' N', Qp S' C' N' ∧ Gw B S' C' N' t.heap) ∧ va_F (bA B) st t
abbrev PcY (B : BB) (avs : List Value) (S : Nat → Nat) (C : Nat → va_E) (N : Nat) : Array Value → State → Prop := va_Pc avs (fun U => Gw B S C N U.heap ∧ Ky B U)
theorem PcY_blind (B : BB) (avs : List Value) (S : Nat → Nat) (C : Nat → va_E) (N : Nat) : FrameBlind (PcY B avs S C N) := fun _ _ _ _ h => ⟨h.1, h.2.1, h.2.2.same rfl rfl⟩
/-- a method from its entry to its return, c cells and n slots made -/
def WY (B : BB) (d : Nat) (M' : MD) (avs : List Value) (c n : Nat) (S : Nat → Nat) (C : Nat → va_E) (N : Nat) (Qp : EndY) : Prop := Wg B d M' c n 0 (lv_args 0 avs) [] S C N (fun S' C' N' pc _ c' n' => decode M'.2.1 pc = .ok (.return_, 1) ∧ c' = 0 ∧ n' = 0 ∧ Qp S' C' N')
theorem met_ofY {B : BB} {d c n N : Nat} {S : Nat → Nat} {C : Nat → va_E} {M' : MD} {y : MethodName} {avs : List Value} {Qp : EndY} (hcls : y.cls = M'.1) (hp : plainName y.cls = true) (hn : M'.1 ≠ "java/util/Arrays" → y.name = "<init>") (hret : M'.2.2.2.1 = none) (hlen : (lg_sl avs).length ≤ M'.2.2.1) (hw : WY B d M' avs c n S C N Qp) :
    Met (bl B) y (Cond.code y M'.2.1 M'.2.2.1 none :: gTbl) (rmG d c n) (PcY B avs S C N) (QcY B Qp) c n (bA B) := by
  refine Met.ofW (cc := M'.2.1) (maxL := M'.2.2.1) (ret := none) hp rfl ?_
  intro p e s mm args below meth cd s₁ X hml hv
  obtain ⟨rfl, hW, hKy⟩ := hv
  have hts : ∀ w ∈ gTbl, w.before (avs.toArray) s = true := fun w h => atoms_spec (ws := Cond.code y M'.2.1 M'.2.2.1 none :: gTbl) X.pre w (List.mem_cons_of_mem _ h)
  have hown : s.vm.findClass y.cls = some mm.cls := findClass_of_methodNamed X.named
  rw [hcls] at hown
  have hlocks : meth.locks = false := X.notSynchronized
  have hnm : meth.name = y.name := (name_of_methodNamed X.named X.method).1
  have hl := lv_entry avs (n := M'.2.2.1) hlen
  rw [lg_entry_eq]
  generalize (lg_sl avs ++ List.replicate (M'.2.2.1 - (lg_sl avs).length) Slot.unset).toArray = L at hl ⊢
  have key := hw p e (headSpec (Cond.code y M'.2.1 M'.2.2.1 none :: gTbl) (rmG d c n)).room s mm _ below meth cd s.heap [] L (MQ below (QcY B Qp) avs.toArray s c n (bA B)) ⟨X.exec, X.bytes, hml, hown, hts, hKy, X.returns.trans hret.symm, hlocks, fun _ h => hnm.trans (hn h)⟩ (Nat.le_refl d) (Nat.le_refl _) ⟨Nat.le_refl c, Nat.le_refl n⟩ hW hl va_S.rf ?_
  · rw [show (headSpec (Cond.code y M'.2.1 M'.2.2.1 none :: gTbl) (rmG d c n)).room.cells - c = 0 from Nat.sub_self c, show (headSpec (Cond.code y M'.2.1 M'.2.2.1 none :: gTbl) (rmG d c n)).room.slots - n = 0 from Nat.sub_self n] at key
    exact key
  · rintro S' C' N' pc' ls' c' n' L' H' locs' ⟨hd, rfl, rfl, hQ⟩ hw' hL' hS' _
    exact W.vret X.exec X.bytes X.returns (fun t ht hW2 => ⟨⟨rfl, S', C', N', hQ, by rw [ht]; exact hw'⟩, hS'.F ht⟩) hS'.2.2 hd
theorem after_runY {B : BB} {pc c n c1 n1 : Nat} {p : Program} {e : Env} {R : Room} {s : State} {mm : MethodId} {args : Array Value} {below : List Frame} {meth : Method} {cd : Code} {H : Heap} {locs : List Loc} {L : Array Slot} {QQ : State → Prop} {st0 rest : List Value} {Qp : EndY} {a : Array Value}
    (hr : va_Run p (bl B) e R s mm args below meth cd H locs c n c1 n1 (F0 mm pc L st0) rest (QcY B Qp a) (bA B)) (hS : va_S (bA B) s.heap H locs)
    (kk : ∀ (S' : Nat → Nat) (C' : Nat → va_E) (N' : Nat) (H1 : Heap) (locs1 : List Loc), Qp S' C' N' → Gw B S' C' N' H1 → va_S (bA B) s.heap H1 locs1 → W p (bl B) e R s mm args below meth cd H1 locs1 (c + c1) (n + n1) QQ (F0 mm (pc + 3) L rest)) :
    W p (bl B) e R s mm args below meth cd H locs c n QQ (F0 mm pc L st0) := by
  intro T hT X
  obtain ⟨v, st₀, t, T', L9, h0, X', hL, e1, e2, ⟨⟨hv, S', C', N', hQ, hG⟩, hz, hk⟩, st⟩ := hr T hT X
  cases hv
  rw [h0] at hz hk
  obtain ⟨t2, a1, b1⟩ := kk S' C' N' T'.heap (locs ++ L9) hQ (by rw [e1]; exact hG) ⟨Nat.le_trans hS.1 (by rw [e1]; exact hz), fun q h1 h2 => by rw [e1, hk q (Nat.lt_of_lt_of_le h1 hS.1) h2]; exact hS.2.1 q h1 h2, fun q hq => by
      rcases List.mem_append.mp hq with h | h
      · exact hS.2.2 q h
      · exact hL q h⟩ T' rfl X'
  exact ⟨t2, st t2 a1, b1⟩
/-- a constructor without parameters -/
def MFi (y : MethodName) (M' : MD) : Prop := y.cls = M'.1 ∧ plainName y.cls = true ∧ y.name = "<init>" ∧ M'.2.2.2.1 = none ∧ Cond.code y M'.2.1 M'.2.2.1 none ∈ gTbl ∧ Cond.initialized y.cls ∈ gTbl ∧ (y.cls ≠ "java/lang/invoke/MethodHandle" ∧ y.cls ≠ "java/lang/invoke/VarHandle" ∧ (parseMethodDescriptor y.desc).map (fun d => d.parameters.length) = some 0) ∧ (1 ≤ M'.2.2.1 ∧ M'.2.2.1 ≤ 14) ∧ Cond.instanceMethod y ∈ gTbl
section CY
variable {B : BB} {d : Nat} {M : MD} {c n pc N : Nat} {ls : List (Nat × Value)} {st : List Value} {S : Nat → Nat} {C : Nat → va_E} {Q : EndQ}
theorem Wg.callC {y : MethodName} {M' : MD} {idx a c1 n1 : Nat} {Qp : EndY} (hd : decode M.2.1 pc = .ok (.invokespecial idx, 3)) (hM : MFi y M') (hl0 : Cond.methodLink M.1 idx y ∈ gTbl) (hrest : (st.map fun v => v.category).sum ≤ 8)
    (q : WY B d M' [.ref a] c1 n1 S C N Qp) (kk : ∀ S' C' N', Qp S' C' N' → Wg B (d + 1) M c n (pc + 3) ls st S' C' N' Q) : Wg B (d + 1) M (c + c1) (n + n1) pc ls (.ref a :: st) S C N Q := by
  intro p e R s mm args below meth cd H locs L QQ F hf hl hr hw hL hS hk
  obtain ⟨h1, h2, h3, h4, h5, h6, h7, h8, h9⟩ := hM
  have hG : GoodIn gTbl (Cond.code y M'.2.1 M'.2.2.1 none :: gTbl) := fun w hw => by
    rcases List.mem_cons.mp hw with rfl | hw
    · exact gTbl_good _ h5
    · exact gTbl_good _ hw
  have hMet := met_ofY h1 h2 (fun _ => h3) h4 (by simp [lg_sl, Value.category]; omega) q
  have hcw := cwI (R := R) (s := s) (args := args) (mc := c1) (ms := n1) (rm := rmG d c1 n1) (own := M.1) (index := idx) 0 F.2.2.2.2.1 hG rfl rfl rfl (F.2.2.2.2.1 _ h6) (F.2.2.2.2.1 _ hl0) (F.2.2.2.2.1 _ h9) h3 h7 ⟨hf, by show 8 + (M'.2.2.1 + 11) + 33 * d ≤ R.locals; omega⟩
  have hrun := va_runI (p := p) (l := bl B) (e := e) (below := below) (meth := meth) (H := H) (locs := locs) (cells := R.cells - (c + c1)) (slots := R.slots - (n + n1)) (g := F0 mm pc L (.ref a :: st)) (As := []) (b := a) (rest := st) ⟨F.1, F.2.1, F.2.2.1, F.2.2.2.1, F.2.2.2.2.1⟩ hMet hcw
    ⟨PcY_blind _ _ _ _ _, fun U hU hW => ⟨rfl, by rw [hU]; exact hw, F.2.2.2.2.2.1.to hS hU hW⟩⟩ rfl rfl hL.1 rfl (lv_room hrest) hd ⟨by omega, by omega⟩
  refine after_runY hrun hS (fun S' C' N' H1 locs1 hQp hw1 hS1 => ?_)
  have := kk S' C' N' hQp p e R s mm args below meth cd H1 locs1 L QQ F hf hl ⟨by omega, by omega⟩ hw1 hL hS1 hk
  rw [show R.cells - c = R.cells - (c + c1) + c1 by omega, show R.slots - n = R.slots - (n + n1) + n1 by omega] at this
  exact this
/-- a nest mate's constructor -/
theorem Wg.callNi {y : MethodName} {M' : MD} {idx a c1 n1 : Nat} {Qp : EndY} (hd : decode M.2.1 pc = .ok (.invokespecial idx, 3)) (hM : MFi y M') (hl0 : (M.1, idx, y) ∈ nestW) (hrest : (st.map fun v => v.category).sum ≤ 8)
    (q : WY B d M' [.ref a] c1 n1 S C N Qp) (kk : ∀ S' C' N', Qp S' C' N' → Wg B (d + 1) M c n (pc + 3) ls st S' C' N' Q) : Wg B (d + 1) M (c + c1) (n + n1) pc ls (.ref a :: st) S C N Q := by
  intro p e R s mm args below meth cd H locs L QQ F hf hl hr hw hL hS hk
  obtain ⟨h1, h2, h3, h4, h5, h6, h7, h8, h9⟩ := hM
  have hG : GoodIn gTbl (Cond.code y M'.2.1 M'.2.2.1 none :: gTbl) := fun w hw => by
    rcases List.mem_cons.mp hw with rfl | hw
    · exact gTbl_good _ h5
    · exact gTbl_good _ hw
  have hMet := met_ofY h1 h2 (fun _ => h3) h4 (by simp [lg_sl, Value.category]; omega) q
  have hcw := va_cnB (R := R) (s := s) (args := args) (mc := c1) (ms := n1) (rm := rmG d c1 n1) 0 F.2.2.2.2.1 hG rfl rfl rfl (F.2.2.2.2.2.1.2.2.2.2.2 _ hl0) (F.2.2.2.2.1 _ h6) h7 ⟨hf, by show 8 + (M'.2.2.1 + 11) + 33 * d ≤ R.locals; omega⟩
  have hrun := va_runIN (p := p) (l := bl B) (e := e) (below := below) (meth := meth) (H := H) (locs := locs) (cells := R.cells - (c + c1)) (slots := R.slots - (n + n1)) (g := F0 mm pc L (.ref a :: st)) (As := []) (b := a) (rest := st) ⟨F.1, F.2.1, F.2.2.1, F.2.2.2.1, F.2.2.2.2.1⟩ hMet ⟨hcw, h3, F.2.2.2.2.1 _ h9⟩
    ⟨PcY_blind _ _ _ _ _, fun U hU hW => ⟨rfl, by rw [hU]; exact hw, F.2.2.2.2.2.1.to hS hU hW⟩⟩ rfl rfl hL.1 rfl (lv_room hrest) hd ⟨by omega, by omega⟩
  refine after_runY hrun hS (fun S' C' N' H1 locs1 hQp hw1 hS1 => ?_)
  have := kk S' C' N' hQp p e R s mm args below meth cd H1 locs1 L QQ F hf hl ⟨by omega, by omega⟩ hw1 hL hS1 hk
  rw [show R.cells - c = R.cells - (c + c1) + c1 by omega, show R.slots - n = R.slots - (n + n1) + n1 by omega] at this
  exact this
/-- Arrays.fill of ints -/
theorem Wg.callF {idx a : Nat} {x : Int32} {Qp : EndY} (hd : decode M.2.1 pc = .ok (.invokestatic idx, 3)) (hl0 : Cond.methodLink M.1 idx yJ7_fill_53178 ∈ gTbl) (hrest : (st.map fun v => v.category).sum ≤ 8)
    (q : WY B d MJ7_fill_53178 [.ref a, .int x] 0 0 S C N Qp) (kk : ∀ S' C' N', Qp S' C' N' → Wg B (d + 1) M c n (pc + 3) ls st S' C' N' Q) : Wg B (d + 1) M c n pc ls (.int x :: .ref a :: st) S C N Q := by
  intro p e R s mm args below meth cd H locs L QQ F hf hl hr hw hL hS hk
  obtain ⟨h1, h2, h3, h4, h5, h6, h7⟩ := fJ7_fill_53178
  have hG : GoodIn gTbl (va_wsS M.1 idx yJ7_fill_53178 (Cond.code yJ7_fill_53178 MJ7_fill_53178.2.1 MJ7_fill_53178.2.2.1 none :: gTbl)) := fun w hw => by
    have : w ∈ gTbl := by
      unfold va_wsS at hw
      simp only [List.cons_append, List.nil_append, List.mem_cons] at hw
      rcases hw with rfl | rfl | rfl | rfl | hw
      · exact hl0
      · exact h7
      · exact h4
      · exact h3
      · exact hw
    exact gTbl_good w this
  have hMet := met_ofY h1 h2.1 (fun h => absurd rfl h) rfl (by simp [lg_sl, Value.category]) q
  have hcw := va_cwS (R := R) (s := s) (args := args) (mc := 0) (ms := 0) (rm := rmG d 0 0) 2 F.2.2.2.2.1 hG rfl rfl rfl h5 ⟨hf, by show 8 + (4 + 11) + 33 * d ≤ R.locals; omega⟩
  have hrun := va_runS (p := p) (l := bl B) (e := e) (below := below) (meth := meth) (H := H) (locs := locs) (cells := R.cells - c) (slots := R.slots - n) (g := F0 mm pc L (.int x :: .ref a :: st)) (As := [.ref a, .int x]) (rest := st) ⟨F.1, F.2.1, F.2.2.1, F.2.2.2.1, F.2.2.2.2.1⟩ hMet hcw
    ⟨PcY_blind _ _ _ _ _, fun U hU hW => ⟨rfl, by rw [hU]; exact hw, F.2.2.2.2.2.1.to hS hU hW⟩⟩ rfl rfl hL.1 rfl (lv_room hrest) hd ⟨by omega, by omega⟩
  exact after_runY hrun hS (fun S' C' N' H1 locs1 hQp hw1 hS1 => kk S' C' N' hQp p e R s mm args below meth cd H1 locs1 L QQ F hf hl hr hw1 hL hS1 hk)
end CY
