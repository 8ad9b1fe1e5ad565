/-! EXCEPTIONS: methods of the class that may throw, and the law's own that catch -/
def eNm (E : Nat) : String := exN.getD (E - 1) ""
abbrev upN : List String := ["java/lang/RuntimeException", "java/lang/Exception"]
theorem at_g : ∀ z ∈ [(1, 37, 41), (2, 94, 98), (3, 63, 67)], ∀ w ∈ (vx_atS "TestSlots" z.2.2 (eNm z.1) upN).filter goodWord, w ∈ gTbl := by decide +kernel
theorem at_b : ∀ z ∈ [(1, 37, 41), (2, 94, 98), (3, 63, 67)], ∀ w ∈ (vx_atS "TestSlots" z.2.2 (eNm z.1) upN).filter (fun w => !goodWord w), w ∈ Cond.castable (eNm z.1) (eNm z.1) :: decW.map Cond.declares := by decide +kernel
theorem at_o : ∀ z ∈ [(1, 37, 41), (2, 94, 98), (3, 63, 67)], ∀ w ∈ Cond.classLink "TestSlots" z.2.1 (eNm z.1) :: Cond.initialized (eNm z.1) :: vx_atS "TestSlots" z.2.2 (eNm z.1) upN, vx_ot w = true := by decide +kernel
theorem at_k : ∀ z ∈ [(1, 37, 41), (2, 94, 98), (3, 63, 67)], Cond.classLink "TestSlots" z.2.1 (eNm z.1) ∈ gTbl ∧ Cond.initialized (eNm z.1) ∈ gTbl ∧ Bundle.fit (eNm z.1) = true ∧ eNm z.1 ∈ exN := by decide +kernel
theorem up_fit : ∀ n ∈ upN, Bundle.fit n = true := by decide +kernel
section VM
variable {g : GG} {d : Nat}
abbrev rmX (d : Nat) : Room := { frames := d, cells := 1, slots := 6, locals := 33 * d }
abbrev QcX (g : GG) (Qp : Ou → PM → Prop) : Array Value → State → Outcome → State → Prop := va_Qi (fun (r : Int32) (u : PM) => Qp (.inl (some (pI r))) u) (fun u t => World g u t.heap) (gA g)
abbrev XcX (g : GG) (Qp : Ou → PM → Prop) : String → State → State → Prop := vx_X (fun u : Nat × PM => Qp (.inr u.1) u.2) (fun E u t => eNm u.1 = E ∧ World g u.2 t.heap) (gA g)
theorem vmet_of {M' : MD} {y : MethodName} {avs : List PV} {m : PM} {Qp : Ou → PM → Prop} (hcls : y.cls = M'.1) (hp : plainName y.cls = true ∧ M'.2.2.2.2 = []) (hlen : (argL avs).length ≤ M'.2.2.1) (hall : vAll avs) (hQp : ∀ o m', Qp o m' → (∃ x, o = .inl (some (pI x))) ∨ ∃ E, o = .inr E) (hw : Wq g (d + 6) M' 1 6 0 (argL avs) [] m (fun o m' c n => c = 1 ∧ n = 6 ∧ Qp o m')) :
    vx_Met (gl g) y (Cond.code y M'.2.1 M'.2.2.1 M'.2.2.2.1 :: gTbl) (rmX (d + 6)) (PcM g avs m) (QcX g Qp) (XcX g Qp) 1 6 (gA g) := by
  refine vx_ofW (cc := M'.2.1) (maxL := M'.2.2.1) (ret := M'.2.2.2.1) hp.1 rfl ?_
  intro p e s mm args below meth cd s₁ B hml htab0 hv
  obtain ⟨rfl, hW, hKn⟩ := hv
  have hts : ∀ w ∈ gTbl, w.before ((avs.map (pv g)).toArray) s = true := fun w h => atoms_spec (ws := Cond.code y M'.2.1 M'.2.2.1 M'.2.2.2.1 :: gTbl) B.pre w (List.mem_cons_of_mem _ h)
  have hown : s.vm.findClass y.cls = some mm.cls := findClass_of_methodNamed B.named
  rw [hcls] at hown
  have hlocks : meth.locks = false := B.notSynchronized
  have htab : cd.exceptionTable.toList = tableOf M'.2.2.2.2 := by
    rw [hp.2]
    exact List.eq_nil_iff_forall_not_mem.mpr htab0
  have hl := lv_entry (avs.map (pv g)) (n := M'.2.2.1) (by rw [argL_len]; exact hlen)
  rw [lg_entry_eq]
  generalize (lg_sl (avs.map (pv g)) ++ List.replicate (M'.2.2.1 - (lg_sl (avs.map (pv g))).length) Slot.unset).toArray = L at hl ⊢
  refine hw p e _ s mm _ below meth cd s.heap [] L _ ⟨B.exec, B.bytes, hml, hown, hts, hKn, B.returns, hlocks, htab⟩ (Nat.le_refl (d + 6)) (Nat.le_refl _) ⟨Nat.le_refl 1, Nat.le_refl 6⟩ hW ⟨hl.1, hl.2.1, fun q hq => hl.2.2 q (argL_in avs 0 q hq)⟩ trivial (argL_all hall) va_S.rf ?_
  rintro o m' c' n' pc' L' st' H' locs' ⟨rfl, rfl, hQ⟩ hw' hsz hS' hE
  rcases hQp o m' hQ with ⟨x, rfl⟩ | ⟨E, rfl⟩
  · obtain ⟨h1, rfl, rt, h3, h4⟩ := hE
    refine W.widen (k := 1) (n := 6) (Nat.zero_le 1) (Nat.zero_le 6) ?_
    exact vx_ret (W.zret (v := x) B.exec B.bytes (B.returns.trans h3) h4 (fun t ht hW2 => ⟨⟨x, m', rfl, hQ, by show World g m' t.heap; rw [ht]; exact hw'⟩, hS'.F ht⟩) hS'.2.2 h1)
  · obtain ⟨ik, is, ic, tx, hT, d0, d3, d4, d6, d9, hs, hE, hsum⟩ := hE
    obtain ⟨sa, hstr⟩ := hKn.2.2.1.2.2.2.2.2.2.1 _ hs
    have ha := at_k _ hE
    have hown' := hown
    rw [hT] at hown'
    refine vx_throwS (A := gA g) (text := tx) (names := upN) (cls := eNm E) (own := "TestSlots") (sa := sa) B.exec B.bytes hKn.2.2.2.2 hown' ha.2.2.1 up_fit (hts _ ha.1) (hts _ ha.2.1) hstr
      (vx_hat (B := Cond.castable (eNm E) (eNm E) :: decW.map Cond.declares) (fun w h => hts _ (at_g _ hE w h)) (at_b _ hE) (fun w h => by
        rcases List.mem_cons.mp h with rfl | h
        · exact va_Nw.use rfl (hKn.2.2.1.2.2.2.2.2.2.2.2.2.1 _ ha.2.2.2)
        · obtain ⟨y9, hy9, rfl⟩ := List.mem_map.mp h
          exact va_Nw.use rfl (hKn.2.2.1.2.2.2.2.2.2.2.2.2.2 _ hy9))) (at_o _ hE) hKn.2.2.1.2.2.2.1.1 hKn.2.2.1.2.2.2.1.2 hS' (hsz.trans hml.symm) d0 d3 d4 d6 d9 (fun z hz => (htab0 z hz).elim) (by show 5 < d + 6; omega) (by show _ ≤ 33 * (d + 6); refine Nat.le_trans (Nat.add_le_add_right hsum _) (by show 8 + (13 * 3 + 43) ≤ 33 * (d + 6); omega)) (Nat.le_refl 1) (Nat.le_refl 6) hlocks
      (fun t hvm hz hk => ⟨(E, m'), hQ, ⟨rfl, hw'.kept (fun k q hq => hk q.1 ((hw' k q hq).lt))⟩, ?_⟩) hS'.2.2 (Nat.le_refl 1) (Nat.le_refl 6)
    exact ⟨Nat.le_trans hS'.1 hz, fun q h1 h2 => (hk q (Nat.lt_of_lt_of_le h1 hS'.1)).trans (hS'.2.1 q h1 h2)⟩
/-- a call of a method of TestSlots that may throw, in a method that catches: the exception is put away at once -/
theorem Wq.callX {M : MD} {c n pc : Nat} {ls : List (Option PV)} {st : List PV} {m : PM} {Q : Ou → PM → Nat → Nat → Prop} {y : MethodName} {M' : MD} {idx t r j k : Nat} {As : List PV} {Qp : Ou → PM → Prop} (hd : decode M.2.1 pc = .ok (.invokevirtual idx, 3)) (hM : MFv y M' k) (hl0 : Cond.methodLink M.1 idx y ∈ gTbl) (ht : clN t = y.cls) (hne : y.cls ≠ "") (hn : As.length = k) (hlen : (argL (pO t r j :: As)).length ≤ M'.2.2.1) (hrest : catS st ≤ 8)
    (hQp : ∀ o m', Qp o m' → (∃ x, o = .inl (some (pI x))) ∨ ∃ E, o = .inr E) (q : Wq g (d + 6) M' 1 6 0 (argL (pO t r j :: As)) [] m (fun o m' c n => c = 1 ∧ n = 6 ∧ Qp o m'))
    (kk : ∀ x m', Qp (.inl (some (pI x))) m' → Wq g (d + 7) M c n (pc + 3) ls (pI x :: st) m' Q)
    (kx : ∀ E m', Qp (.inr E) m' → ∃ (pre suf : List (Nat × Nat × Nat × Nat)) (x : Nat × Nat × Nat × Nat) (a len : Nat), M.2.2.2.2 = pre ++ x :: suf ∧ eNm E ∈ exN ∧ (∀ z ∈ pre, covers ⟨z.1, z.2.1, z.2.2.1, z.2.2.2⟩ pc = false ∨ (z.2.2.2 ≠ 0 ∧ ∃ nm, Cond.classLink M.1 z.2.2.2 nm ∈ gTbl ∧ (eNm E, nm) ∈ ncW)) ∧ covers ⟨x.1, x.2.1, x.2.2.1, x.2.2.2⟩ pc = true ∧ x.2.2.2 ≠ 0 ∧ Cond.classLink M.1 x.2.2.2 (eNm E) ∈ gTbl ∧ a < M.2.2.1 ∧ ((∃ a' : Fin 4, (a' : Nat) = a ∧ len = 1 ∧ decode M.2.1 x.2.2.1 = .ok (.astore_n a', 1)) ∨ (len = 2 ∧ decode M.2.1 x.2.2.1 = .ok (.astore a, 2))) ∧ Wq g (d + 7) M c n (x.2.2.1 + len) [] [] m' Q) :
    Wq g (d + 7) M (c + 1) (n + 6) pc ls (As.reverse ++ pO t r j :: st) m Q := by
  intro p e R s mm args below meth cd H locs L QQ F hf hl hr hw hL hst hls hS hk
  obtain ⟨h1, h2, h3, h4, h5, h6, h7, h8⟩ := hM
  obtain ⟨hAr, hO⟩ := vAll_app hst
  have hAs : vAll As := by have := vAll_rev hAr; rwa [List.reverse_reverse] at this
  obtain ⟨T, N, hc, hark, h41⟩ := clN_ok ht hne
  obtain ⟨q0, hq⟩ := trip_ix (trip_of hO.1 h41)
  have he : (cells g m)[q0]? = some (ga g t r j, .inr (cix t, obv g m (t, r, j))) := by
    rw [cells_at hq]
    unfold cellE
    rw [show ark (t, r, j).1 = none from hark]
  have hG : GoodIn gTbl (wsV M.1 idx y.cls y (Cond.code y M'.2.1 M'.2.2.1 M'.2.2.2.1 :: gTbl)) := fun w hw => by
    have : w ∈ gTbl := by
      unfold wsV at hw
      simp only [List.cons_append, List.nil_append, List.mem_cons] at hw
      rcases hw with rfl | rfl | rfl | rfl | rfl | hw
      · exact hl0
      · exact h7
      · exact h8
      · exact h4
      · exact h3
      · exact hw
    exact gTbl_good w this
  have hMet := vmet_of h1 h2 hlen (avs := pO t r j :: As) ⟨hO.1, hAs⟩ hQp q
  have hcw := cwV (R := R) (s := s) (args := args) (mc := 1) (ms := 6) (rm := rmX (d + 6)) k F.2.2.2.2.1 hG rfl rfl rfl ⟨rfl, h5⟩ ⟨hf, by show 8 + (M'.2.2.1 + 11) + 33 * (d + 6) ≤ R.locals; omega⟩
  have hrun := vx_runV (p := p) (l := gl g) (e := e) (below := below) (meth := meth) (H := H) (locs := locs) (cells := R.cells - (c + 1)) (slots := R.slots - (n + 6)) (g := F0 mm pc L ((As.reverse ++ pO t r j :: st).map (pv g))) (As := As.map (pv g)) (b := ga g t r j) (rest := st.map (pv g)) ⟨F.1, F.2.1, F.2.2.1, F.2.2.2.1, F.2.2.2.2.1⟩ hMet hcw
    ⟨PcM_blind _ _, ht ▸ va_recv F.2.2.2.2.2.1.2.1 hw (ht ▸ hc) he, fun U hU hW => ⟨rfl, by rw [hU]; exact hw, F.2.2.2.2.2.1.to hS hU hW⟩⟩ rfl (by rw [List.length_map]; exact hn) hL.1 (by simp [List.map_append, List.map_reverse, pv]) (lv_room (catS_le hrest)) hd ⟨by omega, by omega⟩
  have ec : R.cells - (c + 1) + 1 = R.cells - c := by omega
  have es : R.slots - (n + 6) + 6 = R.slots - n := by omega
  refine vx_calli hrun hS (fun q _ h => h) (fun q h => h) (fun q _ h => h) (fun E ce q9 u t2 H1 locs1 hH1 hvm hpu hB hz hkk hS1 hce hcv hcl => ?_) (fun x u t2 H1 locs1 hH1 hvm hpu hB hz hkk hS1 => ?_)
  · rw [ec, es]
    obtain ⟨hEn, hB⟩ := hB
    rw [hH1] at hB
    obtain ⟨pre, suf, x, a, len, g1, g2, g3, g4, g5, g6, g7, g8, g9⟩ := kx u.1 u.2 hpu
    have hsp : cd.exceptionTable.toList = tableOf pre ++ (⟨x.1, x.2.1, x.2.2.1, x.2.2.2⟩ : ExceptionTableEntry) :: tableOf suf := by
      rw [F.2.2.2.2.2.2.2.2, g1]
      simp [tableOf]
    rw [← hEn] at hcl
    refine vx_catch (E := eNm u.1) (name := eNm u.1) F.2.2.2.1 (tableOf pre) _ (tableOf suf) hsp (fun z hz => ?_) g4 g5 (F.2.2.2.2.1 _ g6) (va_Nw.use rfl (F.2.2.2.2.2.1.2.2.1.2.2.2.2.2.2.2.2.2.1 _ g2)) hce hcv hcl ?_
    · obtain ⟨z', hz', rfl⟩ := List.mem_map.mp hz
      rcases g3 z' hz' with h | ⟨ha, nm, hb, hcn⟩
      · exact Or.inl h
      · exact Or.inr ⟨ha, nm, F.2.2.2.2.1 _ hb, F.2.2.2.2.2.1.2.2.1.2.2.2.2.2.2.2.2.1 _ hcn⟩
    · rcases g8 with ⟨a', rfl, rfl, hda⟩ | ⟨rfl, hda⟩
      · refine lv_astore_n F.1 F.2.1 hda rfl hL g7 rfl (fun L2 hL2 => ?_)
        exact g9 p e R s mm args below meth cd H1 locs1 L2 QQ F hf hl ⟨by omega, by omega⟩ hB ⟨hL2.1, hL2.2.1, fun q hq => by cases hq⟩ trivial trivial hS1 hk
      · refine lv_astore F.1 F.2.1 hda hL g7 rfl (fun L2 hL2 => ?_)
        exact g9 p e R s mm args below meth cd H1 locs1 L2 QQ F hf hl ⟨by omega, by omega⟩ hB ⟨hL2.1, hL2.2.1, fun q hq => by cases hq⟩ trivial trivial hS1 hk
  · rw [ec, es]
    rw [hH1] at hB
    exact kk x u hpu p e R s mm args below meth cd H1 locs1 L QQ F hf hl ⟨by omega, by omega⟩ hB hL ⟨trivial, hO.2⟩ hls hS1 hk
/-- the law's own methods, which catch: they end with an int -/
def MFh (y : MethodName) (M' : MD) (k : Nat) : Prop := y.cls = M'.1 ∧ plainName y.cls = true ∧ Cond.codeWith y M'.2.1 M'.2.2.1 M'.2.2.2.1 M'.2.2.2.2 ∈ gTbl ∧ Cond.initialized y.cls ∈ gTbl ∧ (y.cls ≠ "java/lang/invoke/MethodHandle" ∧ y.cls ≠ "java/lang/invoke/VarHandle" ∧ (parseMethodDescriptor y.desc).map (fun d => d.parameters.length) = some k) ∧ M'.2.2.1 ≤ 14 ∧ Cond.static y ∈ gTbl
theorem hmet_of {M' : MD} {y : MethodName} {avs : List PV} {m : PM} {Qp : Ou → PM → Prop} (hcls : y.cls = M'.1) (hp : plainName y.cls = true) (hlen : (argL avs).length ≤ M'.2.2.1) (hall : vAll avs) (hc0 : Cond.codeWith y M'.2.1 M'.2.2.1 M'.2.2.2.1 M'.2.2.2.2 ∈ gTbl) (hQp : ∀ o m', Qp o m' → ∃ x, o = .inl (some (pI x))) (hw : Wq g d M' 1 6 0 (argL avs) [] m (fun o m' c n => c = 0 ∧ n = 0 ∧ Qp o m')) :
    vx_Met (gl g) y (Cond.codeWith y M'.2.1 M'.2.2.1 M'.2.2.2.1 M'.2.2.2.2 :: gTbl) (rmX d) (PcM g avs m) (QcX g Qp) (vx_X (fun _ : Unit => False) (fun _ _ _ => True) (gA g)) 1 6 (gA g) := by
  refine vx_ofWH (cc := M'.2.1) (maxL := M'.2.2.1) (ret := M'.2.2.2.1) (hh := M'.2.2.2.2) hp rfl ?_
  intro p e s mm args below meth cd s₁ B hml hv
  obtain ⟨rfl, hW, hKn⟩ := hv
  have hts : ∀ w ∈ gTbl, w.before ((avs.map (pv g)).toArray) s = true := fun w h => atoms_spec (ws := Cond.codeWith y M'.2.1 M'.2.2.1 M'.2.2.2.1 M'.2.2.2.2 :: gTbl) B.pre w (List.mem_cons_of_mem _ h)
  have hown : s.vm.findClass y.cls = some mm.cls := findClass_of_methodNamed B.named
  rw [hcls] at hown
  have hlocks : meth.locks = false := B.notSynchronized
  have htab : cd.exceptionTable.toList = tableOf M'.2.2.2.2 := vx_table (x := y) B (hts _ hc0)
  have hl := lv_entry (avs.map (pv g)) (n := M'.2.2.1) (by rw [argL_len]; exact hlen)
  rw [lg_entry_eq]
  generalize (lg_sl (avs.map (pv g)) ++ List.replicate (M'.2.2.1 - (lg_sl (avs.map (pv g))).length) Slot.unset).toArray = L at hl ⊢
  refine hw p e _ s mm _ below meth cd s.heap [] L _ ⟨B.exec, B.bytes, hml, hown, hts, hKn, B.returns, hlocks, htab⟩ (Nat.le_refl d) (Nat.le_refl _) ⟨Nat.le_refl 1, Nat.le_refl 6⟩ hW ⟨hl.1, hl.2.1, fun q hq => hl.2.2 q (argL_in avs 0 q hq)⟩ trivial (argL_all hall) va_S.rf ?_
  rintro o m' c' n' pc' L' st' H' locs' ⟨rfl, rfl, hQ⟩ hw' hsz hS' hE
  obtain ⟨x, rfl⟩ := hQp o m' hQ
  obtain ⟨h1, rfl, rt, h3, h4⟩ := hE
  exact vx_ret (W.zret (v := x) B.exec B.bytes (B.returns.trans h3) h4 (fun t ht hW2 => ⟨⟨x, m', rfl, hQ, by show World g m' t.heap; rw [ht]; exact hw'⟩, hS'.F ht⟩) hS'.2.2 h1)
theorem Wq.callH {M : MD} {c n pc : Nat} {ls : List (Option PV)} {st : List PV} {m : PM} {Q : Ou → PM → Nat → Nat → Prop} {y : MethodName} {M' : MD} {idx k : Nat} {As : List PV} {f : Int32 → PM → Prop} (hd : decode M.2.1 pc = .ok (.invokestatic idx, 3)) (hM : MFh y M' k) (hl0 : Cond.methodLink M.1 idx y ∈ gTbl) (hn : As.length = k) (hlen : (argL As).length ≤ M'.2.2.1) (hrest : catS st ≤ 8)
    (q : Wq g d M' 1 6 0 (argL As) [] m (fun o m' c n => c = 0 ∧ n = 0 ∧ cI f o m')) (kk : ∀ x m', f x m' → Wq g (d + 1) M c n (pc + 3) ls (pI x :: st) m' Q) : Wq g (d + 1) M (c + 1) (n + 6) pc ls (As.reverse ++ st) m Q := by
  intro p e R s mm args below meth cd H locs L QQ F hf hl hr hw hL hst hls hS hk
  obtain ⟨h1, h2, h3, h4, h5, h6, h7⟩ := hM
  obtain ⟨hAr, hO⟩ := vAll_app hst
  have hAs : vAll As := by have := vAll_rev hAr; rwa [List.reverse_reverse] at this
  have hG : GoodIn gTbl (va_wsS M.1 idx y (Cond.codeWith y M'.2.1 M'.2.2.1 M'.2.2.2.1 M'.2.2.2.2 :: gTbl)) := fun w hw => by
    have : w ∈ gTbl := by
      unfold va_wsS at hw
      simp only [List.cons_append, List.nil_append, List.mem_cons] at hw
      rcases hw with rfl | rfl | rfl | rfl | hw
      · exact hl0
      · exact h7
      · exact h4
      · exact h3
      · exact hw
    exact gTbl_good w this
  have hMet := hmet_of h1 h2 hlen (avs := As) hAs h3 (fun o m' h => by obtain ⟨v, rfl, x, rfl, _⟩ := cI_of o m' h; exact ⟨x, rfl⟩) q
  have hcw := vx_cwSW (R := R) (s := s) (args := args) (mc := 1) (ms := 6) (rm := rmX d) k F.2.2.2.2.1 hG rfl rfl rfl h5 ⟨hf, by show 8 + (M'.2.2.1 + 11) + 33 * d ≤ R.locals; omega⟩
  have hrun := vx_runSX (p := p) (l := gl g) (e := e) (below := below) (meth := meth) (H := H) (locs := locs) (cells := R.cells - (c + 1)) (slots := R.slots - (n + 6)) (g := F0 mm pc L ((As.reverse ++ st).map (pv g))) (As := As.map (pv g)) (rest := st.map (pv g)) ⟨F.1, F.2.1, F.2.2.1, F.2.2.2.1, F.2.2.2.2.1⟩ hMet hcw
    ⟨PcM_blind _ _, fun U hU hW => ⟨rfl, by rw [hU]; exact hw, F.2.2.2.2.2.1.to hS hU hW⟩⟩ rfl (by rw [List.length_map]; exact hn) hL.1 (by simp [List.map_append, List.map_reverse]) (lv_room (catS_le hrest)) hd ⟨by omega, by omega⟩
  have ec : R.cells - (c + 1) + 1 = R.cells - c := by omega
  have es : R.slots - (n + 6) + 6 = R.slots - n := by omega
  refine vx_calli hrun hS (fun q _ h => h) (fun q h => h) (fun q _ h => h) (fun E ce q9 u t2 H1 locs1 hH1 hvm hpu hB hz hkk hS1 hce hcv hcl => hpu.elim) (fun x u t2 H1 locs1 hH1 hvm hpu hB hz hkk hS1 => ?_)
  rw [ec, es]
  rw [hH1] at hB
  exact kk x u hpu p e R s mm args below meth cd H1 locs1 L QQ F hf hl ⟨by omega, by omega⟩ hB hL ⟨trivial, hO⟩ hls hS1 hk
end VM
