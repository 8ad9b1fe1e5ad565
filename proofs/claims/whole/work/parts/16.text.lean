/-! TEXTS: String.checkIndex by hand (its third argument is a reference or null), the words of the orders -/
section TX
variable {g : GG} {d : Nat} {M : MD} {c n pc : Nat} {ls : List (Option PV)} {st : List PV} {m : PM} {Q : Ou → PM → Nat → Nat → Prop}
theorem met_pci {l : Launch} (i k : Int32) (v : Value) (hv : v = .null ∨ ∃ a, v = .ref a) (h1 : ¬ i < 0) (h2 : i < k) (hcode : Cond.code yJ3_checkIndex_8e157 cJ3_checkIndex_8e157 3 (some .int) ∈ gTbl) :
    Met l yJ3_checkIndex_8e157 (Cond.code yJ3_checkIndex_8e157 cJ3_checkIndex_8e157 3 (some .int) :: gTbl) (rmD 0) (va_Pc [.int i, .int k, v] (fun _ => True)) (va_Qi (fun (r : Int32) (_ : Unit) => True) (fun _ _ => True) (fun _ => False)) 0 0 (fun _ => False) := by
  refine Met.ofW (cc := cJ3_checkIndex_8e157) (maxL := 3) (ret := some .int) (by decide) rfl ?_
  intro p e s m args below meth c s₁ B hml hv2
  obtain ⟨rfl, -⟩ := hv2
  have hx := B.exec
  have hb := B.bytes
  have hr := B.returns
  have hlocks : meth.locks = false := B.notSynchronized
  have hc3 : v.category = 1 := by rcases hv with rfl | ⟨a, rfl⟩ <;> rfl
  have hsl : (lg_sl [.int i, .int k, v]).length = 3 := by rcases hv with rfl | ⟨a, rfl⟩ <;> rfl
  have hl := lv_entry [.int i, .int k, v] (n := 3) (Nat.le_of_eq hsl)
  rw [lg_entry_eq]
  generalize (lg_sl [.int i, .int k, v] ++ List.replicate (3 - (lg_sl [.int i, .int k, v]).length) Slot.unset).toArray = ls at hl ⊢
  have hl : lv_has ls 3 [(0, .int i), (1, .int k)] := ⟨hl.1, hl.2.1, fun q hq => hl.2.2 q (by
    rcases List.mem_cons.mp hq with h | h
    · rw [h]; exact List.mem_cons_self
    · rw [List.mem_singleton.mp h]
      show ((1 : Nat), Value.int k) ∈ (0, Value.int i) :: (1, Value.int k) :: _
      exact List.mem_cons_of_mem _ List.mem_cons_self)⟩
  refine lv_iload_n hx hb dJ3_checkIndex_8e157_0 rfl (lv_at hl 0 rfl) ?_
  refine lv_if_lt (tgt := 9) hx hb dJ3_checkIndex_8e157_1 (by decide) (fun q => absurd q h1) (fun _ => ?_)
  refine lv_iload_n hx hb dJ3_checkIndex_8e157_4 rfl (lv_at hl 0 rfl) ?_
  refine lv_iload_n hx hb dJ3_checkIndex_8e157_5 rfl (lv_at hl 1 rfl) ?_
  refine lv_icmp_lt (tgt := 16) hx hb dJ3_checkIndex_8e157_6 (by decide) (fun _ => ?_) (fun q => absurd h2 q)
  refine lv_iload_n hx hb dJ3_checkIndex_8e157_16 rfl (lv_at hl 0 rfl) ?_
  exact W.iret (v := i) hx hb hr (fun t ht hW => ⟨⟨i, (), rfl, trivial, trivial⟩, (va_S.rf (A := fun _ => False) (H0 := s.heap)).F ht⟩) (fun q hq => absurd hq List.not_mem_nil) dJ3_checkIndex_8e157_17
theorem met_ci (i k : Int32) (h1 : ¬ i < 0) (h2 : i < k) (hw0 : Cond.code yJ3_checkIndex_8e157 cJ3_checkIndex_8e157 3 (some .int) ∈ gTbl ∧ Cond.methodLink RJ0 1059 yJ3_checkIndex_8e157 ∈ gTbl ∧ Cond.static yJ3_checkIndex_8e157 ∈ gTbl ∧ Cond.initialized RJ3 ∈ gTbl ∧ Cond.fieldLink RJ0 1053 "jdk/internal/util/Preconditions" "SIOOBE_FORMATTER" "Ljava/util/function/BiFunction;" ∈ gTbl) :
    Met (gl g) yJ0_checkIndex_df160 (Cond.code yJ0_checkIndex_df160 cJ0_checkIndex_df160 2 none :: gTbl) (rmD 1) (va_Pc [.int i, .int k] (fun U => Kn g U)) (va_Qv (fun (_ : Unit) => True) (fun _ _ => True) (fun _ => False)) 0 0 (fun _ => False) := by
  refine Met.ofW (cc := cJ0_checkIndex_df160) (maxL := 2) (ret := none) (by decide) rfl ?_
  intro p e s m args below meth c s₁ B hml hv2
  obtain ⟨rfl, hKn⟩ := hv2
  have hx := B.exec
  have hb := B.bytes
  have hr := B.returns
  have hlocks : meth.locks = false := B.notSynchronized
  have hts : ∀ w ∈ gTbl, w.before (([.int i, .int k] : List Value).toArray) s = true := fun w h => atoms_spec (ws := Cond.code yJ0_checkIndex_df160 cJ0_checkIndex_df160 2 none :: gTbl) B.pre w (List.mem_cons_of_mem _ h)
  have hown : s.vm.findClass RJ0 = some m.cls := findClass_of_methodNamed B.named
  have hl := lv_entry [.int i, .int k] (n := 2) (Nat.le_of_ble_eq_true rfl)
  rw [lg_entry_eq]
  generalize (lg_sl [.int i, .int k] ++ List.replicate (2 - (lg_sl [.int i, .int k]).length) Slot.unset).toArray = ls at hl ⊢
  have hl : lv_has ls 2 [(0, .int i), (1, .int k)] := hl
  have hS : va_S (gA g) s.heap s.heap [] := va_S.rf
  refine lv_iload_n hx hb dJ0_checkIndex_df160_0 rfl (lv_at hl 0 rfl) ?_
  refine lv_iload_n hx hb dJ0_checkIndex_df160_1 rfl (lv_at hl 1 rfl) ?_
  have hZ := hKn.2.2.1.2.2.2.2.1.2.2
  have hZ2 : ∃ v : Value, (v = .null ∨ ∃ a, v = .ref a) ∧ va_Z "jdk/internal/util/Preconditions" "SIOOBE_FORMATTER" "Ljava/util/function/BiFunction;" v (gA g) s s.heap := by
    rcases hZ with h | ⟨a, h⟩
    · exact ⟨_, Or.inl rfl, h⟩
    · exact ⟨_, Or.inr ⟨a, rfl⟩, h⟩
  obtain ⟨v, hv, hZ2⟩ := hZ2
  have hc3 : v.category = 1 := by rcases hv with rfl | ⟨a, rfl⟩ <;> rfl
  refine va_gets hx hb hZ2 hS hown (hts _ hw0.2.2.2.2) (fun _ h => h) dJ0_checkIndex_df160_2 ?_
  have hG : GoodIn gTbl (va_wsS RJ0 1059 yJ3_checkIndex_8e157 (Cond.code yJ3_checkIndex_8e157 cJ3_checkIndex_8e157 3 (some .int) :: gTbl)) := fun w hw => by
    have : w ∈ gTbl := by
      unfold va_wsS at hw
      simp only [List.cons_append, List.nil_append, List.mem_cons] at hw
      rcases hw with rfl | rfl | rfl | rfl | hw
      · exact hw0.2.1
      · exact hw0.2.2.1
      · exact hw0.2.2.2.1
      · exact hw0.1
      · exact hw
    exact gTbl_good w this
  refine va_calli (va_runS (As := [.int i, .int k, v]) (rest := []) ⟨hx, hb, hml, hown, hts⟩ (met_pci i k v hv h1 h2 hw0.1) (va_cwS 3 hts hG rfl rfl rfl (by decide +kernel) ⟨Nat.le_refl 1, Nat.le_of_ble_eq_true rfl⟩) ⟨fun _ _ _ _ h => h, fun U hU hW => ⟨rfl, trivial⟩⟩ rfl rfl hl.1 rfl (lv_room (Nat.zero_le 8)) dJ0_checkIndex_df160_5 ⟨Nat.zero_le _, Nat.zero_le _⟩) (va_S.rf (A := fun _ => False)) (fun q _ h => h) (fun q h => h) (fun r u t H1 locs ht hvm hw hB hz1 hk1 hS1 => ?_)
  refine lv_pop hx hb dJ0_checkIndex_df160_8 rfl ?_
  exact W.vret hx hb hr (fun t ht hW => ⟨⟨(), rfl, trivial, trivial⟩, hS1.F ht⟩) hS1.2.2 dJ0_checkIndex_df160_9
theorem ci_words : Cond.code yJ3_checkIndex_8e157 cJ3_checkIndex_8e157 3 (some .int) ∈ gTbl ∧ Cond.methodLink RJ0 1059 yJ3_checkIndex_8e157 ∈ gTbl ∧ Cond.static yJ3_checkIndex_8e157 ∈ gTbl ∧ Cond.initialized RJ3 ∈ gTbl ∧ Cond.fieldLink RJ0 1053 "jdk/internal/util/Preconditions" "SIOOBE_FORMATTER" "Ljava/util/function/BiFunction;" ∈ gTbl := by decide +kernel
theorem ci_words2 : Cond.code yJ0_checkIndex_df160 cJ0_checkIndex_df160 2 none ∈ gTbl ∧ Cond.static yJ0_checkIndex_df160 ∈ gTbl ∧ Cond.initialized RJ0 ∈ gTbl := by decide +kernel
theorem Wq.checkIndex {idx : Nat} {i k : Int32} (hd : decode M.2.1 pc = .ok (.invokestatic idx, 3)) (hl0 : Cond.methodLink M.1 idx yJ0_checkIndex_df160 ∈ gTbl) (h1 : ¬ i < 0) (h2 : i < k) (hrest : catS st ≤ 8)
    (q : Wq g (d + 2) M c n (pc + 3) ls st m Q) : Wq g (d + 2) M c n pc ls (pI k :: pI i :: st) m Q := by
  intro p e R s mm args below meth cd H locs L QQ F hf hl hr hw hL hst hls hS hk
  have hG : GoodIn gTbl (va_wsS M.1 idx yJ0_checkIndex_df160 (Cond.code yJ0_checkIndex_df160 cJ0_checkIndex_df160 2 none :: gTbl)) := fun w hw => by
    have : w ∈ gTbl := by
      unfold va_wsS at hw
      simp only [List.cons_append, List.nil_append, List.mem_cons] at hw
      rcases hw with rfl | rfl | rfl | rfl | hw
      · exact hl0
      · exact ci_words2.2.1
      · exact ci_words2.2.2
      · exact ci_words2.1
      · exact hw
    exact gTbl_good w this
  have hcw := va_cwS (R := R) (s := s) (args := args) (mc := 0) (ms := 0) (rm := rmD 1) 2 F.2.2.2.2.1 hG rfl rfl rfl (by decide +kernel) ⟨by show 1 + 1 ≤ R.frames; omega, by show 8 + (2 + 11) + 33 * 1 ≤ R.locals; omega⟩
  refine va_callv (va_runS (As := [.int i, .int k]) (rest := st.map (pv g)) ⟨F.1, F.2.1, F.2.2.1, F.2.2.2.1, F.2.2.2.2.1⟩ (met_ci (g := g) i k h1 h2 ci_words) hcw ⟨fun _ _ _ _ h => ⟨h.1, h.2.same rfl rfl⟩, fun U hU hW => ⟨rfl, F.2.2.2.2.2.1.to hS hU hW⟩⟩ rfl rfl hL.1 rfl (lv_room (catS_le hrest)) hd ⟨Nat.sub_le _ _, Nat.sub_le _ _⟩) hS (fun q _ h => h.elim) (fun q h => h.elim) (fun u t H1 locs1 ht hvm hw1 hB hz1 hk1 hS1 => ?_)
  exact q p e R s mm args below meth cd H1 locs1 L QQ F hf hl hr (hw.kept (fun k q hq => hk1 q.1 ((hw k q hq).lt) (fun h => h))) hL hst.2.2 hls hS1 hk
/-- the words: objects 44, their bytes 45 -/
theorem wd_lt {t j : Nat} (ht : 44 ≤ t) (h : (t, 10, j) ∈ trip ++ rtrip) : j < 6 := by
  have h1 : ∀ z ∈ trip ++ rtrip, 44 ≤ z.1 → z.2.2 < 6 := by decide +kernel
  exact h1 _ h ht
theorem wd_in : ∀ j, j < 6 → (45, 10, j) ∈ trip ++ rtrip ∧ (44, 10, j) ∈ trip ++ rtrip := by decide +kernel
theorem Wq.strV {idx j : Nat} (hd : decode M.2.1 pc = .ok (.getfield idx, 3)) (hl0 : Cond.fieldLink M.1 idx "java/lang/String" "value" "[B" ∈ gTbl) (q : Wq g d M c n (pc + 3) ls (pO 45 10 j :: st) m Q) : Wq g d M c n pc ls (pO 44 10 j :: st) m Q := by
  intro p e R s mm args below meth cd H locs L QQ F hf hl hr hw hL hst hls hS hk
  have hj := wd_lt (Nat.le_refl 44) hst.1
  refine vk_getf F.1 F.2.1 ((F.2.2.2.2.2.1.2.2.1.2.2.2.2.1.1.1 j hj).2.2.1) hS F.2.2.2.1 (F.2.2.2.2.1 _ hl0) (fun _ h => h) hd ?_
  exact q p e R s mm args below meth cd H locs L QQ F hf hl hr hw hL ⟨(wd_in j hj).1, hst.2⟩ hls hS hk
theorem Wq.strC {idx j : Nat} (hd : decode M.2.1 pc = .ok (.getfield idx, 3)) (hl0 : Cond.fieldLink M.1 idx "java/lang/String" "coder" "B" ∈ gTbl) (q : Wq g d M c n (pc + 3) ls (pI 0 :: st) m Q) : Wq g d M c n pc ls (pO 44 10 j :: st) m Q := by
  intro p e R s mm args below meth cd H locs L QQ F hf hl hr hw hL hst hls hS hk
  have hj := wd_lt (Nat.le_refl 44) hst.1
  refine vk_getf F.1 F.2.1 ((F.2.2.2.2.2.1.2.2.1.2.2.2.2.1.1.1 j hj).2.1) hS F.2.2.2.1 (F.2.2.2.2.1 _ hl0) (fun _ h => h) hd ?_
  exact q p e R s mm args below meth cd H locs L QQ F hf hl hr hw hL ⟨trivial, hst.2⟩ hls hS hk
theorem Wq.getsC {idx : Nat} (hd : decode M.2.1 pc = .ok (.getstatic idx, 3)) (hl0 : Cond.fieldLink M.1 idx "java/lang/String" "COMPACT_STRINGS" "Z" ∈ gTbl) (q : Wq g d M c n (pc + 3) ls (pI 1 :: st) m Q) : Wq g d M c n pc ls st m Q := by
  intro p e R s mm args below meth cd H locs L QQ F hf hl hr hw hL hst hls hS hk
  refine va_gets F.1 F.2.1 F.2.2.2.2.2.1.2.2.1.2.2.2.2.1.2.1 hS F.2.2.2.1 (F.2.2.2.2.1 _ hl0) (fun _ h => h) hd ?_
  exact q p e R s mm args below meth cd H locs L QQ F hf hl hr hw hL ⟨trivial, hst⟩ hls hS hk
theorem Wq.lenB {j : Nat} (hd : decode M.2.1 pc = .ok (.arraylength, 1)) (q : Wq g d M c n (pc + 1) ls (pI (nI (wdL.getD j 0)) :: st) m Q) : Wq g d M c n pc ls (pO 45 10 j :: st) m Q := by
  intro p e R s mm args below meth cd H locs L QQ F hf hl hr hw hL hst hls hS hk
  have hj := wd_lt (by decide : 44 ≤ 45) hst.1
  refine va_tlen F.1 F.2.1 ((F.2.2.2.2.2.1.2.2.1.2.2.2.2.1.1.1 j hj).2.2.2) hS rfl hd ?_
  exact q p e R s mm args below meth cd H locs L QQ F hf hl hr hw hL ⟨trivial, hst.2⟩ hls hS hk
theorem Wq.baldB {j : Nat} {i : Int32} (hd : decode M.2.1 pc = .ok (.baload, 1)) (hi : vp_in i (wdL.getD j 0)) (q : Wq g d M c n (pc + 1) ls (pI ((wdB.getD j []).getD (ix i) 0) :: st) m Q) : Wq g d M c n pc ls (pI i :: pO 45 10 j :: st) m Q := by
  intro p e R s mm args below meth cd H locs L QQ F hf hl hr hw hL hst hls hS hk
  have hj := wd_lt (by decide : 44 ≤ 45) hst.2.1
  refine va_tb F.1 F.2.1 ((F.2.2.2.2.2.1.2.2.1.2.2.2.2.1.1.1 j hj).2.2.2) hS hi rfl hd ?_
  exact q p e R s mm args below meth cd H locs L QQ F hf hl hr hw hL ⟨trivial, hst.2.2⟩ hls hS hk
theorem Wq.ldcS {idx : Nat} (j : Nat) (hM : M.1 = "TestSlots$OrderText") (hd : decode M.2.1 pc = .ok (.ldc idx, 2)) (hj : j < 6) (he : wdI.getD j 0 = idx) (q : Wq g d M c n (pc + 2) ls (pO 44 10 j :: st) m Q) : Wq g d M c n pc ls st m Q := by
  intro p e R s mm args below meth cd H locs L QQ F hf hl hr hw hL hst hls hS hk
  refine va_ldcS (tx := wdT.getD j "") F.1 F.2.1 F.2.2.2.1 (by rw [hM, ← he]; exact F.2.2.2.2.2.1.2.2.1.2.2.2.2.2.1 j hj) hd ?_
  exact q p e R s mm args below meth cd H locs L QQ F hf hl hr hw hL ⟨(wd_in j hj).2, hst⟩ hls hS hk
/-- a String's own virtual methods -/
theorem Wq.callStr {y : MethodName} {M' : MD} {idx k j : Nat} {As : List PV} {f : Int32 → PM → Prop} (hd : decode M.2.1 pc = .ok (.invokevirtual idx, 3)) (hM : MFv y M' k) (hl0 : Cond.methodLink M.1 idx y ∈ gTbl) (ht : y.cls = "java/lang/String") (hn : As.length = k) (hlen : (argL (pO 44 10 j :: As)).length ≤ M'.2.2.1) (hrest : catS st ≤ 8)
    (q : Wp g d M' 0 (argL (pO 44 10 j :: As)) [] m (cI f)) (kk : ∀ x m', f x m' → Wq g (d + 1) M c n (pc + 3) ls (pI x :: st) m' Q) : Wq g (d + 1) M c n pc ls (As.reverse ++ pO 44 10 j :: st) m Q := by
  intro p e R s mm args below meth cd H locs L QQ F hf hl hr hw hL hst hls hS hk
  obtain ⟨h1, h2, h3, h4, h5, h6, h7, h8⟩ := hM
  obtain ⟨hAr, hO⟩ := vAll_app hst
  have hAs : vAll As := by have := vAll_rev hAr; rwa [List.reverse_reverse] at this
  have hj := wd_lt (Nat.le_refl 44) hO.1
  have hG : GoodIn gTbl (wsV M.1 idx y.cls y (Cond.code y M'.2.1 M'.2.2.1 M'.2.2.2.1 :: gTbl)) := fun w hw => by
    have : w ∈ gTbl := by
      unfold wsV at hw
      simp only [List.cons_append, List.nil_append, List.mem_cons] at hw
      rcases hw with rfl | rfl | rfl | rfl | rfl | hw
      · exact hl0
      · exact h7
      · exact h8
      · exact h4
      · exact h3
      · exact hw
    exact gTbl_good w this
  have hMet := met_of (Qp := kQ (fun v m' => ∃ x, v = some (pI x) ∧ f x m')) h1 h2 hlen ⟨hO.1, hAs⟩ (fun _ _ h => h) (kQ_of cI_of q)
  have hcw := cwV (R := R) (s := s) (args := args) (mc := 0) (ms := 0) (rm := rmD d) k F.2.2.2.2.1 hG rfl rfl rfl ⟨rfl, h5⟩ ⟨hf, by show 8 + (M'.2.2.1 + 11) + 33 * d ≤ R.locals; omega⟩
  have hrun := va_runV (p := p) (l := gl g) (e := e) (below := below) (meth := meth) (H := H) (locs := locs) (cells := R.cells - c) (slots := R.slots - n) (g := F0 mm pc L ((As.reverse ++ pO 44 10 j :: st).map (pv g))) (As := As.map (pv g)) (b := ga g 44 10 j) (rest := st.map (pv g)) ⟨F.1, F.2.1, F.2.2.1, F.2.2.2.1, F.2.2.2.2.1⟩ hMet hcw
    ⟨PcM_blind _ _, ht ▸ vk_recv F.2.2.2.2.2.1.2.2.1.2.2.2.2.1.1 hj hS, fun U hU hW => ⟨rfl, by rw [hU]; exact hw, F.2.2.2.2.2.1.to hS hU hW⟩⟩ rfl (by rw [List.length_map]; exact hn) hL.1 (by simp [List.map_append, List.map_reverse, pv]) (lv_room (catS_le hrest)) hd ⟨Nat.sub_le _ _, Nat.sub_le _ _⟩
  refine after_run hrun hS (fun v m' H1 locs1 hQp hok hw1 hS1 => ?_)
  obtain ⟨x, rfl, hfx⟩ := hQp
  exact kk x m' hfx p e R s mm args below meth cd H1 locs1 L QQ F hf hl hr hw1 hL ⟨trivial, hO.2⟩ hls hS1 hk
end TX
