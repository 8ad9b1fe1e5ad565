/-! MEMORY: fields, rows, statics -/
theorem trip_of {z : Nat × Nat × Nat} (h : z ∈ trip ++ rtrip) (h1 : z.1 < 41) : z ∈ trip := by
  rcases List.mem_append.mp h with h | h
  · exact h
  · exact absurd (rtrip_big z h) (by omega)
theorem trip_ix {z : Nat × Nat × Nat} (h : z ∈ trip) : ∃ q0 : Nat, trip[q0]? = some z := List.getElem?_of_mem h
theorem lay_ok : ∀ z ∈ trip, (fds z.1).all (fun e => e.1 != 3 || decide ((e.2.1, (if e.2.2 = 0 then z.2.1 else e.2.2 - 1), z.2.2) ∈ trip)) = true := by decide +kernel
theorem fget_ok {z : Nat × Nat × Nat} {m : PM} {k : Nat} {v : PV} (h : z ∈ trip) (hv : fget z m k = some v) : vOK v := by
  unfold fget at hv
  cases hd : (fds z.1)[k]? with
  | none => rw [hd] at hv; cases hv
  | some e =>
    rw [hd] at hv
    have hv : fvl z m k e = v := Option.some.inj hv
    have ha := List.all_eq_true.mp (lay_ok z h) e (List.mem_of_getElem? hd)
    subst hv
    unfold fvl
    by_cases e3 : e.1 = 3
    · rw [if_pos e3]
      rw [e3] at ha
      simp at ha
      by_cases e0 : e.2.2 = 0
      · rw [if_pos e0]
        rw [if_pos e0] at ha
        exact List.mem_append_left _ ha
      · rw [if_neg e0]
        rw [if_neg e0] at ha
        exact List.mem_append_left _ ha
    · rw [if_neg e3]
      by_cases e2 : e.1 = 2
      · rw [if_pos e2]; trivial
      · rw [if_neg e2]; trivial
theorem obv_at {g : GG} {m : PM} {z : Nat × Nat × Nat} {k : Nat} {v : PV} (hv : fget z m k = some v) : (obv g m z)[k]? = some (pv g v) := by
  have hk : k < (fds z.1).length := by
    unfold fget at hv
    cases hd : (fds z.1)[k]? with
    | none => rw [hd] at hv; cases hv
    | some e => exact (List.getElem?_eq_some_iff.mp hd).1
  unfold obv
  rw [List.getElem?_map, List.getElem?_range hk]
  show some (match fget z m k with | some v => pv g v | none => Value.null) = _
  rw [hv]
theorem setI_at (m : PM) (t r j k : Nat) (x : Int32) : (setI m t r j k x).1 r t j = upd (m.1 r t j) k x := setR_s m t r j _
theorem obv_len (g : GG) (m : PM) (z : Nat × Nat × Nat) : (obv g m z).length = (fds z.1).length := by simp [obv]
theorem obv_set {g : GG} {m : PM} {t r j k : Nat} {x : Int32} {e : Nat × Nat × Nat} (he : (fds t)[k]? = some e) (h3 : e.1 ≠ 3) (h2 : e.1 ≠ 2) : obv g (setI m t r j k x) (t, r, j) = (obv g m (t, r, j)).set k (.int x) := by
  have hk : k < (fds t).length := (List.getElem?_eq_some_iff.mp he).1
  apply List.ext_getElem?
  intro i
  rw [List.getElem?_set]
  by_cases hi : k = i
  · subst hi
    have : fget (t, r, j) (setI m t r j k x) k = some (pI x) := by
      unfold fget
      show ((fds t)[k]?).map _ = _
      rw [he]
      show some (fvl _ _ _ _) = _
      unfold fvl
      rw [if_neg h3, if_neg h2]
      show some (pI ((setI m t r j k x).1 r t j k)) = _
      rw [setI_at]
      simp [upd]
    rw [obv_at this, obv_len]
    simp [hk, pv]
  · rw [if_neg hi]
    by_cases hl : i < (fds t).length
    · unfold obv
      rw [List.getElem?_map, List.getElem?_map, List.getElem?_range hl]
      have : fget (t, r, j) (setI m t r j k x) i = fget (t, r, j) m i := by
        unfold fget
        cases hd : (fds t)[i]? with
        | none => rfl
        | some d =>
          show some (fvl _ _ _ _) = some (fvl _ _ _ _)
          unfold fvl
          by_cases e3 : d.1 = 3
          · rw [if_pos e3, if_pos e3]
          · rw [if_neg e3, if_neg e3]
            by_cases e2 : d.1 = 2
            · rw [if_pos e2, if_pos e2]; rfl
            · rw [if_neg e2, if_neg e2]
              show some (pI ((setI m t r j k x).1 r t j i)) = some (pI (m.1 r t j i))
              rw [setI_at]
              show some (pI (if i = k then x else m.1 r t j i)) = _
              rw [if_neg (fun q => hi q.symm)]
      show some (match fget (t, r, j) (setI m t r j k x) i with | some v => pv g v | none => Value.null) = some (match fget (t, r, j) m i with | some v => pv g v | none => Value.null)
      rw [this]
    · rw [List.getElem?_eq_none (by rw [obv_len]; exact Nat.le_of_not_lt hl), List.getElem?_eq_none (by rw [obv_len]; exact Nat.le_of_not_lt hl)]
theorem World_set {g : GG} {m m' : PM} {z : Nat × Nat × Nat} {q0 : Nat} {e : va_E} {H1 : Heap} (h : trip[q0]? = some z) (hP : va_P (gD g) vwCl ((cells g m).set q0 (ga g z.1 z.2.1 z.2.2, e)) H1) (he : cellE g m' z = e) (ho : ∀ z' ∈ trip, z' ≠ z → cellE g m' z' = cellE g m z') : World g m' H1 := by
  have := cells_set h he ho
  rw [this] at hP
  exact hP
theorem vp_dec {x : Int32} {k : Nat} (h : decide (¬ (x < 0 ∨ k ≤ x.toNatClampNeg)) = true) : vp_in x k := by
  have h1 := of_decide_eq_true h
  exact h1
/-- a field of a class, as a class names it -/
def FL (own : String) (idx ci k : Nat) : Prop := ∃ (C : String) (T : u_T) (N : Nat) (ty : Nat → FieldType), vwCl[ci]? = some (C, T, N) ∧ k < N ∧ (∀ w ∈ u_ws C T N, w ∈ gTbl) ∧ Cond.fieldLink own idx (T k).1 (T k).2.1 (T k).2.2.1 ∈ gTbl ∧ (∀ k, k < N → parseFieldDescriptor (T k).2.2.1 = some (ty k)) ∧ (∀ a, a < N → ∀ b, b < N → a ≠ b → (T a).2.1 ≠ (T b).2.1)
def FLw (own : String) (idx ci k : Nat) (tc : FieldType) : Prop := ∃ (C : String) (T : u_T) (N : Nat) (ty : Nat → FieldType), vwCl[ci]? = some (C, T, N) ∧ k < N ∧ (∀ w ∈ u_ws C T N, w ∈ gTbl) ∧ Cond.fieldLink own idx (T k).1 (T k).2.1 (T k).2.2.1 ∈ gTbl ∧ (∀ k, k < N → parseFieldDescriptor (T k).2.2.1 = some (ty k)) ∧ (∀ a, a < N → ∀ b, b < N → a ≠ b → (T a).2.1 ≠ (T b).2.1) ∧ (T k).2.2.2 = false ∧ parseFieldDescriptor (T k).2.2.1 = some tc
section RM
variable {g : GG} {d : Nat} {M : MD} {c n pc : Nat} {ls : List (Option PV)} {st : List PV} {m : PM} {Q : Ou → PM → Nat → Nat → Prop}
theorem Wq.getf {idx ci k t r j : Nat} {v : PV} (hd : decode M.2.1 pc = .ok (.getfield idx, 3)) (h : FL M.1 idx ci k) (ht : cix t = ci ∧ ark t = none ∧ t < 41) (hv : fget (t, r, j) m k = some v) (q : Wq g d M c n (pc + 3) ls (v :: st) m Q) : Wq g d M c n pc ls (pO t r j :: st) m Q := by
  intro p e R s mm args below meth cd H locs L QQ F hf hl hr hw hL hst hls hS hk
  obtain ⟨C, T, N, ty, h1, h2, h3, h4, h5, h6⟩ := h
  have hz := trip_of hst.1 ht.2.2
  obtain ⟨q0, hq⟩ := trip_ix hz
  have he : (cells g m)[q0]? = some (ga g t r j, .inr (ci, obv g m (t, r, j))) := by
    rw [cells_at hq]
    show some (_, cellE g m (t, r, j)) = _
    unfold cellE
    rw [show ark (t, r, j).1 = none from ht.2.1]
    show some (_, Sum.inr (cix t, _)) = _
    rw [ht.1]
  refine va_get F.1 F.2.1 F.2.2.2.2.1 h3 F.2.2.2.1 F.2.2.2.2.2.1.2.1 hw q0 he h1 k h2 (F.2.2.2.2.1 _ h4) (fun _ h => h) (obv_at hv) hd ?_
  exact q p e R s mm args below meth cd H locs L QQ F hf hl hr hw hL ⟨fget_ok hz hv, hst.2⟩ hls hS hk
theorem arks {t : Nat} : (ark t = none → t ≠ 11) := fun h e => by subst e; exact absurd h (by decide)
theorem kept_setR {m : PM} {t r j : Nat} {f : Nat → Int32} (h11 : t ≠ 11 ∨ (r = 8 ∧ j = 0)) {z' : Nat × Nat × Nat} (hz : z' ∈ trip) (hne : z' ≠ (t, r, j)) : cellE g (setR m t r j f) z' = cellE g m z' := by
  obtain ⟨t', r', j'⟩ := z'
  refine cellE_kept (setR_n m f hne) (fun _ => rfl) (fun _ => rfl) (fun e => ?_)
  have e : t' = 11 := e
  subst e
  refine setR_n m f fun q => ?_
  rcases h11 with h | h
  · exact h (congrArg Prod.fst q).symm
  · have hz2 : (11, r', j') = (11, 8, 0) := by
      have : ∀ z ∈ trip, z.1 = 11 → z = (11, 8, 0) := by decide +kernel
      exact this _ hz rfl
    exact hne (hz2.trans q)
theorem Wq.putI {idx ci k t r j : Nat} {x : Int32} {tc : FieldType} {e0 : Nat × Nat × Nat} (hd : decode M.2.1 pc = .ok (.putfield idx, 3)) (h : FLw M.1 idx ci k tc) (ht : cix t = ci ∧ ark t = none ∧ t < 41) (hk0 : (fds t)[k]? = some e0 ∧ e0.1 ≠ 3 ∧ e0.1 ≠ 2) (hx : narrow tc (.int x) = .int x ∧ fits tc (.int x) = true) (q : Wq g d M c n (pc + 3) ls st (setI m t r j k x) Q) : Wq g d M c n pc ls (pI x :: pO t r j :: st) m Q := by
  intro p e R s mm args below meth cd H locs L QQ F hf hl hr hw hL hst hls hS hk
  obtain ⟨C, T, N, ty, h1, h2, h3, h4, h5, h6, h7, h8⟩ := h
  have hz := trip_of hst.2.1 ht.2.2
  obtain ⟨q0, hq⟩ := trip_ix hz
  have hce : ∀ m' : PM, cellE g m' (t, r, j) = .inr (ci, obv g m' (t, r, j)) := fun m' => by
    unfold cellE
    rw [show ark (t, r, j).1 = none from ht.2.1]
    show Sum.inr (cix t, _) = _
    rw [ht.1]
  have he : (cells g m)[q0]? = some (ga g t r j, .inr (ci, obv g m (t, r, j))) := by
    rw [cells_at hq, hce]
  refine va_put F.1 F.2.1 F.2.2.2.2.1 h3 ty h5 h6 F.2.2.2.1 F.2.2.2.2.2.1.2.1 hw (F.2.2.2.2.2.1.2.2.2.1 m) hS q0 he h1 k h2 (F.2.2.2.2.1 _ h4) (fun _ h => h) h7 h8 hx.1 hx.2 (by rw [obv_len]; exact (List.getElem?_eq_some_iff.mp hk0.1).1) hd (fun H1 locs1 hP1 _ hS1 => ?_)
  have hw1 := World_set (g := g) (m := m) (m' := setI m t r j k x) (e := .inr (ci, (obv g m (t, r, j)).set k (.int x))) hq hP1 (by rw [hce, obv_set hk0.1 hk0.2.1 hk0.2.2]) (fun z' hz' hne => kept_setR (Or.inl (arks ht.2.1)) hz' hne)
  exact q p e R s mm args below meth cd H1 locs1 L QQ F hf hl hr hw1 hL hst.2.2 hls hS1 hk
/-- the place of a row in the world -/
theorem row_at {t r j k n0 : Nat} (ha : ark t = some (k, n0)) (hz : (t, r, j) ∈ trip) : ∃ q0 : Nat, trip[q0]? = some (t, r, j) ∧ (cells g m)[q0]? = some (ga g t r j, .inl (gc g k, n0, arc g m (t, r, j) k)) := by
  obtain ⟨q0, hq⟩ := trip_ix hz
  refine ⟨q0, hq, ?_⟩
  rw [cells_at hq]
  unfold cellE
  rw [show ark (t, r, j).1 = some (k, n0) from ha]
theorem cellE_row {m' : PM} {t r j k n0 : Nat} (ha : ark t = some (k, n0)) : cellE g m' (t, r, j) = .inl (gc g k, n0, arc g m' (t, r, j) k) := by
  unfold cellE
  rw [show ark (t, r, j).1 = some (k, n0) from ha]
theorem ark_lt {t : Nat} {v : Nat × Nat} (h : ark t = some v) : t < 41 := by
  rcases Nat.lt_or_ge t 41 with q | q
  · exact q
  · rw [ark_none q] at h; cases h
theorem Wq.iald {t r j n0 : Nat} {i : Int32} (hd : decode M.2.1 pc = .ok (.iaload, 1)) (ha : ark t = some (0, n0)) (hi : vp_in i n0) (q : Wq g d M c n (pc + 1) ls (pI (m.1 r t j (ix i)) :: st) m Q) : Wq g d M c n pc ls (pI i :: pO t r j :: st) m Q := by
  intro p e R s mm args below meth cd H locs L QQ F hf hl hr hw hL hst hls hS hk
  obtain ⟨q0, -, hq⟩ := row_at (g := g) (m := m) ha (trip_of hst.2.1 (ark_lt ha))
  refine va_iald F.1 F.2.1 F.2.2.2.2.2.1.2.1 hw q0 0 (f := m.1 r t j) hq rfl hi hd ?_
  exact q p e R s mm args below meth cd H locs L QQ F hf hl hr hw hL ⟨trivial, hst.2.2⟩ hls hS hk
theorem pup_ok : ∀ z ∈ trip, z.1 = 7 → ∀ j, j < 12 → (4, z.2.1, j) ∈ trip := by decide +kernel
theorem exa_ok : ∀ z ∈ trip, z.1 = 8 → ∀ j, j < 4 → (5, z.2.1, j) ∈ trip := by decide +kernel
theorem off_ok : ∀ j, j < 8 → (0, j, 0) ∈ trip := by decide +kernel
theorem vp_lt {i : Int32} {k : Nat} (h : vp_in i k) : ix i < k := by
  rcases Nat.lt_or_ge (ix i) k with q | q
  · exact q
  · exact absurd (Or.inr q) h
theorem Wq.aaldP {r j : Nat} {i : Int32} (hd : decode M.2.1 pc = .ok (.aaload, 1)) (hi : vp_in i 12) (q : Wq g d M c n (pc + 1) ls (pO 4 r (ix i) :: st) m Q) : Wq g d M c n pc ls (pI i :: pO 7 r j :: st) m Q := by
  intro p e R s mm args below meth cd H locs L QQ F hf hl hr hw hL hst hls hS hk
  have hz := trip_of hst.2.1 (show 7 < 41 by decide)
  obtain ⟨q0, -, hq⟩ := row_at (g := g) (m := m) (t := 7) (k := 3) (n0 := 12) rfl hz
  refine va_aldq F.1 F.2.1 F.2.2.2.2.2.1.2.1 hw q0 3 (f := fun i => some (ga g 4 r i)) hq rfl hi hd ?_
  exact q p e R s mm args below meth cd H locs L QQ F hf hl hr hw hL ⟨List.mem_append_left _ (pup_ok _ hz rfl _ (vp_lt hi)), hst.2.2⟩ hls hS hk
theorem Wq.aaldE {r j : Nat} {i : Int32} (hd : decode M.2.1 pc = .ok (.aaload, 1)) (hi : vp_in i 4) (q : Wq g d M c n (pc + 1) ls (pO 5 r (ix i) :: st) m Q) : Wq g d M c n pc ls (pI i :: pO 8 r j :: st) m Q := by
  intro p e R s mm args below meth cd H locs L QQ F hf hl hr hw hL hst hls hS hk
  have hz := trip_of hst.2.1 (show 8 < 41 by decide)
  obtain ⟨q0, -, hq⟩ := row_at (g := g) (m := m) (t := 8) (k := 4) (n0 := 4) rfl hz
  refine va_aldq F.1 F.2.1 F.2.2.2.2.2.1.2.1 hw q0 4 (f := fun i => some (ga g 5 r i)) hq rfl hi hd ?_
  exact q p e R s mm args below meth cd H locs L QQ F hf hl hr hw hL ⟨List.mem_append_left _ (exa_ok _ hz rfl _ (vp_lt hi)), hst.2.2⟩ hls hS hk
theorem Wq.aaldS {r j : Nat} {i : Int32} (hd : decode M.2.1 pc = .ok (.aaload, 1)) (hi : vp_in i 6) (ho : ix (m.1 8 11 0 (ix i)) < 8) (q : Wq g d M c n (pc + 1) ls (pO 0 (ix (m.1 8 11 0 (ix i))) 0 :: st) m Q) : Wq g d M c n pc ls (pI i :: pO 11 r j :: st) m Q := by
  intro p e R s mm args below meth cd H locs L QQ F hf hl hr hw hL hst hls hS hk
  have hz := trip_of hst.2.1 (show 11 < 41 by decide)
  obtain ⟨q0, -, hq⟩ := row_at (g := g) (m := m) (t := 11) (k := 5) (n0 := 6) rfl hz
  refine va_aldq F.1 F.2.1 F.2.2.2.2.2.1.2.1 hw q0 5 (f := fun i => some (ga g 0 (ix (m.1 8 11 0 i)) 0)) hq rfl hi hd ?_
  exact q p e R s mm args below meth cd H locs L QQ F hf hl hr hw hL ⟨List.mem_append_left _ (off_ok _ ho), hst.2.2⟩ hls hS hk
theorem Wq.alen {t r j k n0 : Nat} {v : Int32} (hd : decode M.2.1 pc = .ok (.arraylength, 1)) (ha : ark t = some (k, n0)) (hk0 : k < 6) (hv : Int32.ofNat n0 = v) (q : Wq g d M c n (pc + 1) ls (pI v :: st) m Q) : Wq g d M c n pc ls (pO t r j :: st) m Q := by
  intro p e R s mm args below meth cd H locs L QQ F hf hl hr hw hL hst hls hS hk
  obtain ⟨q0, -, hq⟩ := row_at (g := g) (m := m) ha (trip_of hst.1 (ark_lt ha))
  have ht : ∃ ty, (tysG g)[k]? = some (gc g k, ty) := by
    match k, hk0 with
    | 0, _ => exact ⟨_, rfl⟩
    | 1, _ => exact ⟨_, rfl⟩
    | 2, _ => exact ⟨_, rfl⟩
    | 3, _ => exact ⟨_, rfl⟩
    | 4, _ => exact ⟨_, rfl⟩
    | 5, _ => exact ⟨_, rfl⟩
  obtain ⟨ty, ht⟩ := ht
  refine va_alen F.1 F.2.1 F.2.2.2.2.2.1.2.1 hw q0 k hq ht hv hd ?_
  exact q p e R s mm args below meth cd H locs L QQ F hf hl hr hw hL ⟨trivial, hst.2⟩ hls hS hk
theorem Wq.iast {t r j n0 : Nat} {i x : Int32} (hd : decode M.2.1 pc = .ok (.iastore, 1)) (ha : ark t = some (0, n0)) (hi : vp_in i n0) (q : Wq g d M c n (pc + 1) ls st (setI m t r j (ix i) x) Q) : Wq g d M c n pc ls (pI x :: pI i :: pO t r j :: st) m Q := by
  intro p e R s mm args below meth cd H locs L QQ F hf hl hr hw hL hst hls hS hk
  obtain ⟨q0, hq0, hq⟩ := row_at (g := g) (m := m) ha (trip_of hst.2.2.1 (ark_lt ha))
  refine va_iast F.1 F.2.1 F.2.2.2.2.2.1.2.1 hw (F.2.2.2.2.2.1.2.2.2.1 m) hS q0 0 (f := m.1 r t j) hq rfl hi hd (fun H1 locs1 hP1 _ hS1 => ?_)
  have h11 : t ≠ 11 := fun e => by subst e; exact absurd ha (by simp [ark])
  have hw1 := World_set (g := g) (m := m) (m' := setI m t r j (ix i) x) (e := .inl (gc g 0, n0, .inl (upd (m.1 r t j) (ix i) x))) hq0 hP1 (by rw [cellE_row ha]; show Sum.inl (_, _, Sum.inl ((setI m t r j (ix i) x).1 r t j)) = _; rw [setI_at]) (fun z' hz' hne => kept_setR (Or.inl h11) hz' hne)
  exact q p e R s mm args below meth cd H1 locs1 L QQ F hf hl hr hw1 hL hst.2.2.2 hls hS1 hk
theorem Wq.aast {r0 : Nat} {i : Int32} (hd : decode M.2.1 pc = .ok (.aastore, 1)) (hi : vp_in i 6) (q : Wq g d M c n (pc + 1) ls st (setI m 11 8 0 (ix i) (nI r0)) Q) : Wq g d M c n pc ls (pO 0 r0 0 :: pI i :: pO 11 8 0 :: st) m Q := by
  intro p e R s mm args below meth cd H locs L QQ F hf hl hr hw hL hst hls hS hk
  obtain ⟨q0, hq0, hq⟩ := row_at (g := g) (m := m) (t := 11) (k := 5) (n0 := 6) rfl (trip_of hst.2.2.1 (Nat.le_of_ble_eq_true rfl))
  have hzv := trip_of hst.1 (show 0 < 41 by decide)
  have hr8 : r0 < 8 := by
    have : ∀ z ∈ trip, z.1 = 0 → z.2.1 < 8 := by decide +kernel
    exact this _ hzv rfl
  obtain ⟨qk, hqk⟩ := trip_ix hzv
  have hcv : (cells g m)[qk]? = some (ga g 0 r0 0, .inr (1, obv g m (0, r0, 0))) := by rw [cells_at hqk]; rfl
  refine va_astq F.1 F.2.1 F.2.2.2.2.2.1.2.1 hw (F.2.2.2.2.2.1.2.2.2.1 m) hS q0 5 qk 1 (f := fun i => some (ga g 0 (ix (m.1 8 11 0 i)) 0)) (r := (RX1, TX1, 10)) hq rfl hcv rfl hi hd (fun H1 locs1 hP1 _ hS1 => ?_)
  have hw1 := World_set (g := g) (m := m) (m' := setI m 11 8 0 (ix i) (nI r0)) (z := (11, 8, 0)) (e := .inl (gc g 5, 6, .inr (.inr (.inr (.inr (va_up (fun i => some (ga g 0 (ix (m.1 8 11 0 i)) 0)) (ix i) (some (ga g 0 r0 0)))))))) hq0 hP1 (by
    rw [cellE_row (k := 5) (n0 := 6) rfl]
    have e : (fun k : Nat => some (ga g 0 (ix ((setI m 11 8 0 (ix i) (nI r0)).1 8 11 0 k)) 0)) = va_up (fun i => some (ga g 0 (ix (m.1 8 11 0 i)) 0)) (ix i) (some (ga g 0 r0 0)) := by
      funext k
      rw [setI_at]
      by_cases h : k = ix i
      · simp [upd, va_up, h, nI_clamp (show r0 < 2 ^ 31 by omega)]
      · simp [upd, va_up, h]
    show Sum.inl (_, _, Sum.inr (Sum.inr (Sum.inr (Sum.inr (fun k : Nat => some (ga g 0 (ix ((setI m 11 8 0 (ix i) (nI r0)).1 8 11 0 k)) 0)))))) = _
    rw [e]) (fun z' hz' hne => kept_setR (Or.inr ⟨rfl, rfl⟩) hz' hne)
  exact q p e R s mm args below meth cd H1 locs1 L QQ F hf hl hr hw1 hL hst.2.2.2 hls hS1 hk
end RM
