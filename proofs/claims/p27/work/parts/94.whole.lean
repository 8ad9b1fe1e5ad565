/-! FROM THE LAW'S ENTRY TO ITS END -/
theorem ls_sub {g : GG} {L : Array Slot} {b a0 : Nat} (h : lv_has L 11 [(2, .int 0), (1, .ref a0), (0, .ref b)]) (hb : ga g 41 10 0 = b) (h0 : ga g 10 8 0 = a0) : lv_has L 11 (lp g 0 [some (pO 41 10 0), some (pO 10 8 0), some (pI 0), none, none, none, none, none, none, none, none]) := by
  refine ⟨h.1, h.2.1, fun q hq => h.2.2 q ?_⟩
  have e : lp g 0 [some (pO 41 10 0), some (pO 10 8 0), some (pI 0), none, none, none, none, none, none, none, none] = [(0, .ref b), (1, .ref a0), (2, .int 0)] := by
    show [(0, Value.ref (ga g 41 10 0)), (1, Value.ref (ga g 10 8 0)), (2, Value.int 0)] = _
    rw [hb, h0]
  rw [e] at hq
  simp only [List.mem_cons, List.not_mem_nil, or_false] at hq ⊢
  rcases hq with rfl | rfl | rfl <;> simp
theorem vo_1 : vOK (pO 41 10 0) := (by decide +kernel : ((41, 10, 0) : Nat × Nat × Nat) ∈ trip ++ rtrip)
theorem vo_2 : vOK (pO 10 8 0) := (by decide +kernel : ((10, 8, 0) : Nat × Nat × Nat) ∈ trip ++ rtrip)
set_option maxHeartbeats 1000000 in
theorem whole_start {p : Program} {e : Env} {s : State} {m : MethodId} {below : List Frame} {meth : Method} {c : Code} (l : Launch) (hflags : l.flags = flags0) {b L : Nat} {xs : Nat → Int32} (hL : L ≤ 260) (C0 : lw_At p s m meth c b L xs) : W p l e room_1 s m #[Value.ref b] below meth c s.heap [] 0 0 (lw_Z below #[Value.ref b] s) (entryFrame m ([Value.ref b] : List Value).toArray 11) := by
  obtain ⟨hx, hb, hr, hml, hown, hts, hX, hbl, hlocks, hgv, htab⟩ := C0
  have hst : l.stackTraces = false := by
    unfold Launch.stackTraces
    rw [hflags]
    decide
  obtain ⟨D, gcf, hK⟩ := st_K hts
  obtain ⟨aF, hF1, hF2⟩ := st_first hts hgv
  obtain ⟨aH, hH1, hH2⟩ := st_high hts hgv
  obtain ⟨B, hB⟩ : ∃ B : BB, B = (l, D, gcf, aF, s.heap.size) := ⟨_, rfl⟩
  have hKy : Ky B s := by
    subst hB
    exact ⟨Nat.le_refl _, hK, ⟨hF1, hF2⟩, ⟨va_AO.of (A := #[Value.ref b]) (wd hts 35 (by decide +kernel)), va_AO.of (A := #[Value.ref b]) (wd hts 37 (by decide +kernel)), va_AO.of (A := #[Value.ref b]) (wd hts 140 (by decide +kernel))⟩, va_Nw.of (A := #[Value.ref b]) rfl (wd hts 32 (by decide +kernel)), st_nest hts⟩
  have hl := lv_entry [Value.ref b] (n := 11) (by simp [lg_sl, Value.category])
  rw [lg_entry_eq]
  generalize (lg_sl [Value.ref b] ++ List.replicate (11 - (lg_sl [Value.ref b]).length) Slot.unset).toArray = L0 at hl ⊢
  have key := law_make (B := B) (d := 6) (c := 599915) (n := 7298118) (b := b) (S := fun _ => 0) (C := fun _ => .inr (0, [])) (Q := fun S C N pc ls c n => Sh4 B S C 0 ∧ N = 215 ∧ pc = 10 ∧ ls = [(2, .int 0), (1, .ref (S 0)), (0, .ref b)] ∧ c = 599915 ∧ n = 7298118) (fun S C h1 => ⟨h1, rfl, rfl, rfl, rfl, rfl⟩)
  have key2 := key p e room_1 s m #[Value.ref b] below meth c s.heap [] L0 (lw_Z below #[Value.ref b] s) ⟨hx, hb, hml, hown, st_gt hts, hKy, hr, hlocks, fun h => by cases h⟩ (by decide) (by decide) ⟨by decide, by decide⟩ ⟨fun k q h => by simp [gws] at h, ⟨fun i j p q h => by simp [gws] at h, fun k q h => by simp [gws] at h⟩⟩ hl va_S.rf ?_
  · subst hB
    exact key2
  rintro S C N pc ls c' n' L1 H1 locs1 ⟨h4, rfl, rfl, rfl, rfl, rfl⟩ hG hL1 hS1 -
  obtain ⟨g, hg⟩ : ∃ g : GG, g = gM B S b aH L xs := ⟨_, rfl⟩
  have hKn : Kn g s := by
    subst hg
    subst hB
    exact ⟨Nat.le_refl _, hK, ⟨⟨hX, hbl⟩, ⟨hF1, hF2⟩, ⟨hH1, hH2⟩, trivial, trivial, trivial, trivial, st_nest hts, trivial⟩, cells_D hG.2, hst⟩
  have hW : World g m0 H1 := by
    subst hg
    exact world_of hG h4
  have hL2 : lv_has L1 11 (lp g 0 [some (pO 41 10 0), some (pO 10 8 0), some (pI 0), none, none, none, none, none, none, none, none]) := by
    subst hg
    exact ls_sub hL1 rfl rfl
  have loop := law_all (g := g) (d := 2) (Q := fun o _ _ _ => o = .inl (some (pI 1))) (c := 599915) (n := 7298118) (by subst hg; exact hL) Ok0 (fun _ => rfl)
  have loop2 := loop p e room_1 s m #[Value.ref b] below meth c H1 locs1 L1 (lw_Z below #[Value.ref b] s) ⟨hx, hb, hml, hown, st_gt hts, hKn, hr, hlocks, htab⟩ (by decide) (by decide) ⟨by decide, by decide⟩ hW hL2 trivial ⟨vo_1, vo_2, trivial, trivial⟩ (by subst hg; exact hS1) ?_
  · subst hg
    subst hB
    exact loop2
  rintro o m' c' n' pc' L' st' H' locs' rfl hw' hsz hS' ⟨hd, rfl, -⟩
  have hS2' : ∀ q ∈ locs', s.heap.size ≤ q.base := by
    subst hg
    subst hB
    exact hS'.2.2
  have hgl : gl g = l := by
    subst hg
    subst hB
    rfl
  rw [hgl]
  refine va_forget hS2' (W.widen (k := 600130) (n := 7301080) (Nat.sub_le _ _) (Nat.sub_le _ _) ?_)
  exact lw_ret hx hb hr hlocks hd
