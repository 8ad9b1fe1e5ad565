/-! THE PURE LAYER: values and memory without addresses. A value: int, long, double, or an object by its kind t, region r and number j.
Regions: 0..7 the offices (0 office, 1 trial, 2..7 saves), 8 the TestSlots object and its text, 9 the model, 10 what is only read, and the law's row.
Kinds: 0 Office, 1 settings, 2 diary, 3 queue, 4 Pupil, 5 Examiner, 6 routes, 7 pupils, 8 examiners, 10 TestSlots, 11 saves, 12 OrderText, 13 codes, 14 kinds, 15 numbers, 16 days,
20 TestSlotsModel, 21 s, 22 aside, 23 saved, 24 text, 25 order, 26 told, 27 has, 28 mine, 29 by, 30 isOn, 40 out, 41 script, 42 FIRST_SETTINGS, 43 HIGHEST_SETTINGS, 44 words, 45 their bytes. -/
abbrev PV : Type := Int32 ⊕ (Int64 ⊕ (UInt64 ⊕ (Nat × Nat × Nat)))
abbrev pI (x : Int32) : PV := .inl x
abbrev pL (x : Int64) : PV := .inr (.inl x)
abbrev pD (x : UInt64) : PV := .inr (.inr (.inl x))
abbrev pO (t r j : Nat) : PV := .inr (.inr (.inr (t, r, j)))
/-- ints by region, kind, number, place; two longs: 0 the law's out[0], 1 the model's digested -/
abbrev PM : Type := (Nat → Nat → Nat → Nat → Int32) × (Nat → Int64)
/-- the end of a method: a value or none, or an exception by its number -/
abbrev Ou : Type := Option PV ⊕ Nat
abbrev MD : Type := String × ByteArray × Nat × Option FieldType × List (Nat × Nat × Nat × Nat)
/-- what stays the same throughout: launch, slots of fields, classes of rows, addresses, the first new address, length and contents of the script -/
abbrev GG : Type := Launch × va_G × (Nat → ClassId) × (Nat → Nat → Nat → Nat) × Nat × Nat × (Nat → Int32)
abbrev gl (g : GG) : Launch := g.1
abbrev gD (g : GG) : va_G := g.2.1
abbrev gc (g : GG) : Nat → ClassId := g.2.2.1
abbrev ga (g : GG) : Nat → Nat → Nat → Nat := g.2.2.2.1
abbrev gN (g : GG) : Nat := g.2.2.2.2.1
abbrev gL (g : GG) : Nat := g.2.2.2.2.2.1
abbrev gx (g : GG) : Nat → Int32 := g.2.2.2.2.2.2
abbrev gA (g : GG) : Nat → Prop := fun q => gN g ≤ q
/-- what may be written -/
def trip : List (Nat × Nat × Nat) :=
  (List.range 8).flatMap (fun r => [(0, r, 0), (1, r, 0), (2, r, 0), (3, r, 0), (7, r, 0), (8, r, 0)] ++ (List.range 12).map (fun j => (4, r, j)) ++ (List.range 4).flatMap (fun j => [(5, r, j), (6, r, j)]))
  ++ [(10, 8, 0), (11, 8, 0), (12, 8, 0), (13, 8, 0), (14, 8, 0), (15, 8, 0), (16, 8, 0)]
def rtrip : List (Nat × Nat × Nat) := [(41, 10, 0), (42, 10, 0), (43, 10, 0)]
theorem trip_nodup : trip.Nodup := by decide +kernel
theorem rtrip_big : ∀ z ∈ rtrip, 41 ≤ z.1 := by decide +kernel
/-- fields by kind: 0 int, 1 boolean, 2 long, 3 a reference that stays: its kind, its region (0: the same, r + 1 else) -/
def fds (t : Nat) : List (Nat × Nat × Nat) :=
  if t = 0 then [(0, 0, 0), (0, 0, 0), (0, 0, 0), (0, 0, 0), (0, 0, 0), (3, 1, 0), (3, 2, 0), (3, 7, 0), (3, 8, 0), (3, 3, 0)] else
  if t = 4 then [(0, 0, 0), (0, 0, 0), (0, 0, 0), (0, 0, 0), (0, 0, 0), (0, 0, 0), (0, 0, 0), (0, 0, 0), (0, 0, 0)] else
  if t = 5 then [(3, 6, 0), (0, 0, 0), (0, 0, 0)] else
  if t = 10 then [(3, 0, 1), (3, 0, 2), (3, 11, 0), (0, 0, 0), (3, 12, 0)] else
  if t = 12 then [(3, 13, 0), (0, 0, 0), (0, 0, 0), (0, 0, 0), (3, 14, 0), (3, 15, 0), (3, 16, 0)] else
  if t = 20 then [(0, 0, 0), (3, 21, 0), (3, 22, 0), (3, 23, 0), (0, 0, 0), (3, 24, 0), (0, 0, 0), (3, 25, 0), (0, 0, 0), (1, 0, 0), (3, 26, 0), (3, 27, 0), (3, 28, 0), (3, 29, 0), (3, 30, 0), (2, 0, 0)] else
  []
/-- the number of the class among vwCl -/
def cix (t : Nat) : Nat :=
  if t = 0 then 1 else
  if t = 4 then 3 else
  if t = 5 then 0 else
  if t = 10 then 4 else
  if t = 12 then 2 else
  9
/-- rows: 0 int, 1 boolean, 2 long, 3 Pupil, 4 Examiner, 5 Office; and the length -/
def ark (t : Nat) : Option (Nat × Nat) :=
  if t = 1 then some (0, 4) else
  if t = 2 then some (0, 160) else
  if t = 3 then some (0, 12) else
  if t = 6 then some (0, 4) else
  if t = 7 then some (3, 12) else
  if t = 8 then some (4, 4) else
  if t = 11 then some (5, 6) else
  if t = 13 then some (0, 60) else
  if t = 14 then some (0, 60) else
  if t = 15 then some (0, 60) else
  if t = 16 then some (0, 60) else
  if t = 21 then some (0, 341) else
  if t = 22 then some (0, 341) else
  if t = 23 then some (0, 2046) else
  if t = 24 then some (0, 60) else
  if t = 25 then some (0, 12) else
  if t = 26 then some (0, 3) else
  if t = 27 then some (0, 16) else
  if t = 28 then some (0, 12) else
  if t = 29 then some (0, 16) else
  if t = 30 then some (1, 12) else
  if t = 40 then some (2, 1) else
  none
abbrev ix (x : Int32) : Nat := x.toNatClampNeg
def fvl (z : Nat × Nat × Nat) (m : PM) (k : Nat) (d : Nat × Nat × Nat) : PV :=
  if d.1 = 3 then (if d.2.2 = 0 then pO d.2.1 z.2.1 z.2.2 else pO d.2.1 (d.2.2 - 1) z.2.2) else if d.1 = 2 then pL (m.2 1) else pI (m.1 z.2.1 z.1 z.2.2 k)
def fget (z : Nat × Nat × Nat) (m : PM) (k : Nat) : Option PV := ((fds z.1)[k]?).map (fvl z m k)
def pv (g : GG) (v : PV) : Value := match v with
  | .inl x => .int x
  | .inr (.inl x) => .long x
  | .inr (.inr (.inl x)) => .double x
  | .inr (.inr (.inr z)) => .ref (ga g z.1 z.2.1 z.2.2)
def obv (g : GG) (m : PM) (z : Nat × Nat × Nat) : List Value := (List.range (fds z.1).length).map (fun k => match fget z m k with | some v => pv g v | none => .null)
def arc (g : GG) (m : PM) (z : Nat × Nat × Nat) (k : Nat) : (Nat → Int32) ⊕ (Nat → Int64) ⊕ (Nat → UInt32) ⊕ (Nat → UInt64) ⊕ (Nat → Option Nat) :=
  if k = 2 then .inr (.inl (fun i => if i = 0 then m.2 0 else 0)) else
  if k = 3 then .inr (.inr (.inr (.inr (fun i => some (ga g 4 z.2.1 i))))) else
  if k = 4 then .inr (.inr (.inr (.inr (fun i => some (ga g 5 z.2.1 i))))) else
  if k = 5 then .inr (.inr (.inr (.inr (fun i => some (ga g 0 (ix (m.1 8 11 0 i)) 0))))) else
  .inl (m.1 z.2.1 z.1 z.2.2)
def cellE (g : GG) (m : PM) (z : Nat × Nat × Nat) : va_E := match ark z.1 with
  | some (k, n) => .inl (gc g k, n, arc g m z k)
  | none => .inr (cix z.1, obv g m z)
def cells (g : GG) (m : PM) : va_W := trip.map (fun z => (ga g z.1 z.2.1 z.2.2, cellE g m z))
abbrev World (g : GG) (m : PM) (H : Heap) : Prop := va_P (gD g) vwCl (cells g m) H
/-- writing: a row of a kind in a region; a place of it; a long -/
def tset (τ : Nat → Nat → Nat → Int32) (t j : Nat) (f : Nat → Int32) : Nat → Nat → Nat → Int32 := fun t' => if t' = t then (fun j' => if j' = j then f else τ t' j') else τ t'
def rset (m : PM) (r : Nat) (τ : Nat → Nat → Nat → Int32) : PM := (fun r' => if r' = r then τ else m.1 r', m.2)
def setR (m : PM) (t r j : Nat) (f : Nat → Int32) : PM := rset m r (tset (m.1 r) t j f)
def setI (m : PM) (t r j k : Nat) (x : Int32) : PM := setR m t r j (upd (m.1 r t j) k x)
def setL (m : PM) (k : Nat) (x : Int64) : PM := (m.1, vp_updL m.2 k x)
theorem setR_s (m : PM) (t r j : Nat) (f : Nat → Int32) : (setR m t r j f).1 r t j = f := by simp [setR, rset, tset]
theorem setR_n (m : PM) {t r j : Nat} (f : Nat → Int32) {t' r' j' : Nat} (h : (t', r', j') ≠ (t, r, j)) : (setR m t r j f).1 r' t' j' = m.1 r' t' j' := by
  by_cases h1 : r' = r
  · subst h1
    by_cases h2 : t' = t
    · subst h2
      by_cases h3 : j' = j
      · subst h3
        exact absurd rfl h
      · simp [setR, rset, tset, h3]
    · simp [setR, rset, tset, h2]
  · simp [setR, rset, h1]
theorem setR_l (m : PM) (t r j : Nat) (f : Nat → Int32) : (setR m t r j f).2 = m.2 := rfl
/-- a kind and number are among what may be written, and their place in the list -/
theorem cells_at {g : GG} {m : PM} {z : Nat × Nat × Nat} {q0 : Nat} (h : trip[q0]? = some z) : (cells g m)[q0]? = some (ga g z.1 z.2.1 z.2.2, cellE g m z) := by
  simp [cells, List.getElem?_map, h]
theorem trip_inj {i j : Nat} {z : Nat × Nat × Nat} (hi : trip[i]? = some z) (hj : trip[j]? = some z) : i = j := by
  obtain ⟨h1, h2⟩ := List.getElem?_eq_some_iff.mp hi
  obtain ⟨h3, h4⟩ := List.getElem?_eq_some_iff.mp hj
  exact (List.getElem_inj trip_nodup).mp (h2.trans h4.symm)
theorem cells_set {g : GG} {m m' : PM} {z : Nat × Nat × Nat} {q0 : Nat} {e : va_E} (h : trip[q0]? = some z) (he : cellE g m' z = e) (ho : ∀ z' ∈ trip, z' ≠ z → cellE g m' z' = cellE g m z') : (cells g m).set q0 (ga g z.1 z.2.1 z.2.2, e) = cells g m' := by
  apply List.ext_getElem?
  intro i
  rw [List.getElem?_set]
  by_cases hi : q0 = i
  · subst hi
    rw [cells_at (m := m') h, he]
    have hl : q0 < (cells g m).length := by
      have := (List.getElem?_eq_some_iff.mp h).1
      simpa [cells] using this
    simp [hl]
  · rw [if_neg hi]
    cases hz : trip[i]? with
    | none => simp [cells, List.getElem?_map, hz]
    | some z' =>
      rw [cells_at hz, cells_at hz, ho z' (List.mem_of_getElem? hz) (fun q => hi (trip_inj h (q ▸ hz)))]
theorem fds_none {t : Nat} (h : 21 ≤ t) : fds t = [] := by
  unfold fds
  rw [if_neg (by omega), if_neg (by omega), if_neg (by omega), if_neg (by omega), if_neg (by omega), if_neg (by omega)]
theorem fds_tab : ∀ t, t < 21 → (fds t).all (fun p => p.1 != 2 || t == 20) = true := by decide +kernel
theorem fds_long {t k : Nat} {d : Nat × Nat × Nat} (h : (fds t)[k]? = some d) (h2 : d.1 = 2) : t = 20 := by
  rcases Nat.lt_or_ge t 21 with q | q
  · have := List.all_eq_true.mp (fds_tab t q) d (List.mem_of_getElem? h)
    rw [h2] at this
    simpa using this
  · rw [fds_none q] at h
    simp at h
theorem ark_tab : ∀ t, t < 41 → (ark t).all (fun p => (p.1 != 2 || t == 40) && (decide (p.1 < 5) || t == 11)) = true := by decide +kernel
theorem ark_none {t : Nat} (h : 41 ≤ t) : ark t = none := by
  unfold ark
  rw [if_neg (by omega), if_neg (by omega), if_neg (by omega), if_neg (by omega), if_neg (by omega), if_neg (by omega), if_neg (by omega), if_neg (by omega), if_neg (by omega), if_neg (by omega), if_neg (by omega), if_neg (by omega), if_neg (by omega), if_neg (by omega), if_neg (by omega), if_neg (by omega), if_neg (by omega), if_neg (by omega), if_neg (by omega), if_neg (by omega), if_neg (by omega), if_neg (by omega)]
theorem ark_both {t k n : Nat} (h : ark t = some (k, n)) : (k = 2 → t = 40) ∧ (5 ≤ k → t = 11) := by
  rcases Nat.lt_or_ge t 41 with q | q
  · have := ark_tab t q
    rw [h] at this
    simp at this
    exact ⟨fun e => this.1.resolve_left (fun z => z e), fun e => this.2.resolve_left (by omega)⟩
  · rw [ark_none q] at h
    cases h
theorem ark_long {t n : Nat} (h : ark t = some (2, n)) : t = 40 := (ark_both h).1 rfl
theorem ark_off {t k n : Nat} (h : ark t = some (k + 5, n)) : t = 11 := (ark_both h).2 (by omega)
/-- what a cell shows depends on its own row, on the longs, and (the saves) on its own row in its region -/
theorem cellE_kept {g : GG} {m m' : PM} {z : Nat × Nat × Nat} (h1 : m'.1 z.2.1 z.1 z.2.2 = m.1 z.2.1 z.1 z.2.2) (h2 : z.1 = 20 → m'.2 1 = m.2 1) (h3 : z.1 = 40 → m'.2 0 = m.2 0) (h4 : z.1 = 11 → m'.1 8 11 0 = m.1 8 11 0) : cellE g m' z = cellE g m z := by
  obtain ⟨t, r, j⟩ := z
  have h1' : m'.1 r t j = m.1 r t j := h1
  have hob : obv g m' (t, r, j) = obv g m (t, r, j) := by
    unfold obv
    refine List.map_congr_left fun k hk => ?_
    have e : fget (t, r, j) m' k = fget (t, r, j) m k := by
      unfold fget
      cases hd : (fds t)[k]? with
      | none => rfl
      | some d =>
        show some _ = some _
        unfold fvl
        by_cases e3 : d.1 = 3
        · rw [if_pos e3, if_pos e3]
        · rw [if_neg e3, if_neg e3]
          by_cases e2 : d.1 = 2
          · rw [if_pos e2, if_pos e2, h2 (fds_long hd e2)]
          · rw [if_neg e2, if_neg e2]
            show some (pI (m'.1 r t j k)) = some (pI (m.1 r t j k))
            rw [h1']
    rw [e]
  unfold cellE
  cases ha : ark (t, r, j).1 with
  | none => simp only [hob]
  | some kn =>
    obtain ⟨k, n⟩ := kn
    have ea : arc g m' (t, r, j) k = arc g m (t, r, j) k := by
      unfold arc
      by_cases e2 : k = 2
      · rw [if_pos e2, if_pos e2, h3 ((ark_both ha).1 e2)]
      · rw [if_neg e2, if_neg e2]
        by_cases e3 : k = 3
        · rw [if_pos e3, if_pos e3]
        · rw [if_neg e3, if_neg e3]
          by_cases e4 : k = 4
          · rw [if_pos e4, if_pos e4]
          · rw [if_neg e4, if_neg e4]
            by_cases e5 : k = 5
            · rw [if_pos e5, if_pos e5, h4 ((ark_both ha).2 (by omega))]
            · rw [if_neg e5, if_neg e5]
              show Sum.inl (m'.1 r t j) = Sum.inl (m.1 r t j)
              rw [h1']
    show Sum.inl _ = Sum.inl _
    rw [ea]
