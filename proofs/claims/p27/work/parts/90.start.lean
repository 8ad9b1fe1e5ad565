/-! THE START: memory, addresses, world -/
def m0 : PM := (fun _ t _ k => if t = 1 then fs4 k else if t = 2 then -2 else if t = 4 then (if k = 3 ∨ k = 4 then -1 else 0) else if t = 11 then nI (2 + k) else 0, fun _ => 0)
theorem Ok0 : Ok 0 0 0 0 0 m0 := by
  refine ⟨⟨⟨⟨⟨rfl, by decide⟩, ⟨rfl, by decide⟩, ⟨0, rfl, by decide⟩, ⟨0, rfl, Nat.le_refl 0, fun p hp => absurd hp (Nat.not_lt_zero p)⟩, fun p hp => absurd hp (Nat.not_lt_zero p), fun p hp => absurd hp (Nat.not_lt_zero p), fun p hp => absurd hp (Nat.not_lt_zero p), fun i _ h => absurd h (Nat.not_lt_zero _), fun i _ _ => rfl, fun p hp => absurd hp (Nat.not_lt_zero p), fun p hp => absurd hp (Nat.not_lt_zero p), fun p _ _ => ⟨rfl, rfl, rfl, rfl, rfl, rfl, rfl, rfl⟩, fun e _ _ => ⟨rfl, rfl, fun k _ => rfl⟩⟩, ⟨by decide, fun p hp => absurd hp (Nat.not_lt_zero p), 0, 0, rfl, rfl, by decide, by decide⟩⟩, fun p hp => absurd hp (Nat.not_lt_zero p), rfl⟩, ⟨fun i hi => ?_, fun i hi j hj e => ?_⟩, rfl, by decide⟩
  · show 2 ≤ ix (nI (2 + i)) ∧ ix (nI (2 + i)) < 8
    rw [ixn (by omega)]
    omega
  · have e : ix (nI (2 + i)) = ix (nI (2 + j)) := e
    rw [ixn (by omega), ixn (by omega)] at e
    omega
def obs (r : Nat) : Nat := if r = 0 then 1 else if r = 1 then 27 else 59 + 26 * (r - 2)
def ordn (t r j : Nat) : Nat :=
  if t = 0 then obs r else if t = 1 then obs r + 1 else if t = 2 then obs r + 2 else if t = 7 then obs r + 3 else if t = 8 then obs r + 4 else if t = 3 then obs r + 5 else if t = 4 then obs r + 6 + 1 * j else if t = 5 then obs r + 18 + 2 * j else if t = 6 then obs r + 18 + 2 * j + 1 else
  if t = 10 then 0 else if t = 11 then 53 else 42 + t
theorem ordn_lt : ∀ z ∈ trip, ordn z.1 z.2.1 z.2.2 < 215 := by decide +kernel
theorem ordn_nodup : (trip.map (fun z => ordn z.1 z.2.1 z.2.2)).Nodup := by decide +kernel
def adr (S : Nat → Nat) (b aF aH : Nat) (t r j : Nat) : Nat :=
  if t < 41 then S (ordn t r j) else if t = 41 then b else if t = 42 then aF else aH
abbrev gM (B : BB) (S : Nat → Nat) (b aH : Nat) (L : Nat) (xs : Nat → Int32) : GG := (bl B, bD B, bc B, adr S b (bF B) aH, B.2.2.2.2, L, xs)
theorem trip_t : ∀ z ∈ trip, z.1 < 41 := by decide +kernel
theorem cells_adr {B : BB} {S : Nat → Nat} {b aH L : Nat} {xs : Nat → Int32} {m : PM} {i : Nat} {q : Nat × va_E} (h : (cells (gM B S b aH L xs) m)[i]? = some q) : ∃ z, trip[i]? = some z ∧ z ∈ trip ∧ q = (S (ordn z.1 z.2.1 z.2.2), cellE (gM B S b aH L xs) m z) := by
  unfold cells at h
  rw [List.getElem?_map] at h
  cases hz : trip[i]? with
  | none => rw [hz] at h; cases h
  | some z =>
    rw [hz] at h
    have hm : z ∈ trip := List.mem_of_getElem? hz
    refine ⟨z, rfl, hm, ?_⟩
    have := (Option.some.inj h).symm
    rw [this]
    show (adr S b (bF B) aH z.1 z.2.1 z.2.2, _) = _
    unfold adr
    rw [if_pos (trip_t z hm)]
theorem cells_D {B : BB} {S : Nat → Nat} {C : Nat → va_E} {b aH L : Nat} {xs : Nat → Int32} (hD : va_D (bA B) (gws S C 215)) (m : PM) : va_D (bA B) (cells (gM B S b aH L xs) m) := by
  refine ⟨fun i j p q hp hq e => ?_, fun k q hq => ?_⟩
  · obtain ⟨z, hz, hm, rfl⟩ := cells_adr hp
    obtain ⟨z', hz', hm', rfl⟩ := cells_adr hq
    have e1 : ordn z.1 z.2.1 z.2.2 = ordn z'.1 z'.2.1 z'.2.2 := hD.1 _ _ _ _ (gws_at (ordn_lt z hm)) (gws_at (ordn_lt z' hm')) e
    obtain ⟨h1, h2⟩ := List.getElem?_eq_some_iff.mp hz
    obtain ⟨h3, h4⟩ := List.getElem?_eq_some_iff.mp hz'
    refine (List.getElem_inj (h₀ := by rw [List.length_map]; exact h1) (h₁ := by rw [List.length_map]; exact h3) ordn_nodup).mp ?_
    rw [List.getElem_map, List.getElem_map, h2, h4]
    exact e1
  · obtain ⟨z, hz, hm, rfl⟩ := cells_adr hq
    have := hD.2 _ _ (gws_at (S := S) (C := C) (ordn_lt z hm))
    exact this
theorem arr_congr {cA : ClassId} {n : Nat} {f f' : Nat → Value} (h : ∀ y, y < n → f y = f' y) : arrV cA n f = arrV cA n f' := by
  unfold arrV
  congr 2
  first
    | (apply Array.ext <;> simp; intro i h1; exact h i h1)
    | (funext i; exact h i.1 i.2)
    | (refine List.map_congr_left fun y hy => ?_; exact h y (List.mem_range.mp hy))
theorem at_i {D : va_G} {cl : List vw_C} {a n : Nat} {cA : ClassId} {f f' : Nat → Int32} {H : Heap} {e : va_E} (h : va_at D cl (a, e) H) (h1 : e = .inl (cA, n, .inl f)) (h2 : ∀ y, y < n → f y = f' y) : va_at D cl (a, .inl (cA, n, .inl f')) H := by
  subst h1
  have h : H[a]? = some (vp_cell cA (n, .inl f)) := h
  show H[a]? = some (vp_cell cA (n, .inl f'))
  rw [h, vp_cell_i, vp_cell_i]
  exact congrArg some (arr_congr fun y hy => by rw [h2 y hy])
theorem at_l {D : va_G} {cl : List vw_C} {a n : Nat} {cA : ClassId} {f f' : Nat → Int64} {H : Heap} {e : va_E} (h : va_at D cl (a, e) H) (h1 : e = .inl (cA, n, .inr (.inl f))) (h2 : ∀ y, y < n → f y = f' y) : va_at D cl (a, .inl (cA, n, .inr (.inl f'))) H := by
  subst h1
  have h : H[a]? = some (vp_cell cA (n, .inr (.inl f))) := h
  show H[a]? = some (vp_cell cA (n, .inr (.inl f')))
  rw [h, vp_cell_l, vp_cell_l]
  exact congrArg some (arr_congr fun y hy => by rw [h2 y hy])
theorem at_q {D : va_G} {cl : List vw_C} {a n : Nat} {cA : ClassId} {f f' : Nat → Option Nat} {H : Heap} {e : va_E} (h : va_at D cl (a, e) H) (h1 : e = .inl (cA, n, .inr (.inr (.inr (.inr f))))) (h2 : ∀ y, y < n → f y = f' y) : va_at D cl (a, .inl (cA, n, .inr (.inr (.inr (.inr f'))))) H := by
  subst h1
  have h : H[a]? = some (vp_cell cA (n, .inr (.inr (.inr (.inr f))))) := h
  show H[a]? = some (vp_cell cA (n, .inr (.inr (.inr (.inr f')))))
  rw [h, vp_cell_q, vp_cell_q]
  exact congrArg some (arr_congr fun y hy => by rw [h2 y hy])
theorem at_ob {D : va_G} {cl : List vw_C} {a : Nat} {e e' : va_E} {H : Heap} (h : va_at D cl (a, e) H) (h1 : e = e') : va_at D cl (a, e') H := by
  subst h1
  exact h
