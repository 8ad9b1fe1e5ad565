/-! FROM THE LAW'S ENTRY TO ITS END -/
theorem ls_sub {g : GG} {L : Array Slot} {b a0 a1 a2 : Nat} (h : lv_has L 9 [(4, .int 0), (3, .ref a2), (2, .ref a1), (1, .ref a0), (0, .ref b)]) (hb : ga g 41 10 0 = b) (h0 : ga g 10 8 0 = a0) (h1 : ga g 20 9 0 = a1) (h2 : ga g 40 10 0 = a2) : lv_has L 9 (lp g 0 [some (pO 41 10 0), some (pO 10 8 0), some (pO 20 9 0), some (pO 40 10 0), some (pI (nI (4 * 0))), none, none, none, none]) := by
  refine ⟨h.1, h.2.1, fun q hq => h.2.2 q ?_⟩
  have e : lp g 0 [some (pO 41 10 0), some (pO 10 8 0), some (pO 20 9 0), some (pO 40 10 0), some (pI (nI (4 * 0))), none, none, none, none] = [(0, .ref b), (1, .ref a0), (2, .ref a1), (3, .ref a2), (4, .int 0)] := by
    show [(0, Value.ref (ga g 41 10 0)), (1, Value.ref (ga g 10 8 0)), (2, Value.ref (ga g 20 9 0)), (3, Value.ref (ga g 40 10 0)), (4, Value.int (nI 0))] = _
    rw [hb, h0, h1, h2]
    rfl
  rw [e] at hq
  simp only [List.mem_cons, List.not_mem_nil, or_false] at hq ⊢
  rcases hq with rfl | rfl | rfl | rfl | rfl <;> simp
theorem vo_1 : vOK (pO 41 10 0) := (by decide +kernel : ((41, 10, 0) : Nat × Nat × Nat) ∈ trip ++ rtrip)
theorem vo_2 : vOK (pO 10 8 0) := (by decide +kernel : ((10, 8, 0) : Nat × Nat × Nat) ∈ trip ++ rtrip)
theorem vo_3 : vOK (pO 20 9 0) := (by decide +kernel : ((20, 9, 0) : Nat × Nat × Nat) ∈ trip ++ rtrip)
theorem vo_4 : vOK (pO 40 10 0) := (by decide +kernel : ((40, 10, 0) : Nat × Nat × Nat) ∈ trip ++ rtrip)
set_option maxHeartbeats 1000000 in
theorem whole_start {p : Program} {e : Env} {s : State} {m : MethodId} {below : List Frame} {meth : Method} {c : Code} (l : Launch) (hflags : l.flags = flags0) {b L : Nat} {xs : Nat → Int32} (hL : L ≤ 2048) (C0 : lw_At p s m meth c b L xs) : W p l e room_1 s m #[Value.ref b] below meth c s.heap [] 0 0 (lw_Z below #[Value.ref b] s) (entryFrame m ([Value.ref b] : List Value).toArray 9) := by
  obtain ⟨hx, hb, hr, hml, hown, hts, hX, hbl, hlocks, hgv, htab⟩ := C0
  have hst : l.stackTraces = false := by
    unfold Launch.stackTraces
    rw [hflags]
    decide
  obtain ⟨D, gcf, hK⟩ := st_K hts
  obtain ⟨aF, hF1, hF2⟩ := st_first hts hgv
  obtain ⟨aH, hH1, hH2⟩ := st_high hts hgv
  obtain ⟨aS, aB, hT1, hT2⟩ := st_strs hgv
  obtain ⟨B, hB⟩ : ∃ B : BB, B = (l, D, gcf, aF, s.heap.size) := ⟨_, rfl⟩
  have hKy : Ky B s := by
    subst hB
    exact ⟨Nat.le_refl _, hK, ⟨hF1, hF2⟩, ⟨va_AO.of (A := #[Value.ref b]) (wd hts 84 (by decide +kernel)), va_AO.of (A := #[Value.ref b]) (wd hts 86 (by decide +kernel)), va_AO.of (A := #[Value.ref b]) (wd hts 189 (by decide +kernel))⟩, va_Nw.of (A := #[Value.ref b]) rfl (wd hts 81 (by decide +kernel)), st_nest hts⟩
  have hl := lv_entry [Value.ref b] (n := 9) (by simp [lg_sl, Value.category])
  rw [lg_entry_eq]
  generalize (lg_sl [Value.ref b] ++ List.replicate (9 - (lg_sl [Value.ref b]).length) Slot.unset).toArray = L0 at hl ⊢
  have key := law_make (B := B) (d := 8) (c := 600797) (n := 7287195) (b := b) (S := fun _ => 0) (C := fun _ => .inr (0, [])) (Q := fun S C N pc ls c n => Sh4 B S C 0 ∧ Sh5 B S C 215 ∧ C 226 = .inl (bc B 2, 1, .inr (.inl (fun _ => 0))) ∧ N = 227 ∧ pc = 23 ∧ ls = [(4, .int 0), (3, .ref (S 226)), (2, .ref (S 215)), (1, .ref (S 0)), (0, .ref b)] ∧ c = 600797 ∧ n = 7287195) (fun S C h1 h2 h3 => ⟨h1, h2, h3, rfl, rfl, rfl, rfl, rfl⟩)
  have key2 := key p e room_1 s m #[Value.ref b] below meth c s.heap [] L0 (lw_Z below #[Value.ref b] s) ⟨hx, hb, hml, hown, st_gt hts, hKy, hr, hlocks, fun h => by cases h⟩ (by decide) (by decide) ⟨by decide, by decide⟩ ⟨fun k q h => by simp [gws] at h, ⟨fun i j p q h => by simp [gws] at h, fun k q h => by simp [gws] at h⟩⟩ hl va_S.rf ?_
  · subst hB
    exact key2
  rintro S C N pc ls c' n' L1 H1 locs1 ⟨h4, h5, h6, rfl, rfl, rfl, rfl, rfl⟩ hG hL1 hS1 -
  obtain ⟨g, hg⟩ : ∃ g : GG, g = gM B S b aH aS aB L xs := ⟨_, rfl⟩
  have hKn : Kn g s := by
    subst hg
    subst hB
    exact ⟨Nat.le_refl _, hK, ⟨⟨hX, hbl⟩, ⟨hF1, hF2⟩, ⟨hH1, hH2⟩, st_thr hts hgv, ⟨hT1, st_cs hts hgv⟩, fun i hi => vk_R.of (A := #[Value.ref b]) (st_sr hts i hi) (hT2 i hi), st_ex hts hgv, st_nest hts, st_nc hgv, st_cast hts, st_dec hts⟩, cells_D hG.2, hst⟩
  have hW : World g m0 H1 := by
    subst hg
    exact world_of hG h4 h5 h6
  have hL2 : lv_has L1 9 (lp g 0 [some (pO 41 10 0), some (pO 10 8 0), some (pO 20 9 0), some (pO 40 10 0), some (pI (nI (4 * 0))), none, none, none, none]) := by
    subst hg
    exact ls_sub hL1 rfl rfl rfl rfl
  have loop := law_loop (g := g) (d := 2) (Q := fun o _ _ _ => o = .inl (some (pI 1))) (by subst hg; exact hL) (fun _ _ _ => rfl) 512 0 600797 7287195 m0 Top0 (by subst hg; show L ≤ _; omega) (by decide) (by decide) (by omega) (by decide) (by decide)
  have loop2 := loop p e room_1 s m #[Value.ref b] below meth c H1 locs1 L1 (lw_Z below #[Value.ref b] s) ⟨hx, hb, hml, hown, st_gt hts, hKn, hr, hlocks, htab⟩ (by decide) (by decide) ⟨by decide, by decide⟩ hW hL2 trivial ⟨vo_1, vo_2, vo_3, vo_4, trivial, trivial⟩ (by subst hg; exact hS1) ?_
  · subst hg
    subst hB
    exact loop2
  rintro o m' c' n' pc' L' st' H' locs' rfl hw' hsz hS' ⟨hd, rfl, -⟩
  have hS2' : ∀ q ∈ locs', s.heap.size ≤ q.base := by
    subst hg
    subst hB
    exact hS'.2.2
  have hgl : gl g = l := by
    subst hg
    subst hB
    rfl
  rw [hgl]
  refine va_forget hS2' (W.widen (k := 601024) (n := 7293033) (Nat.sub_le _ _) (Nat.sub_le _ _) ?_)
  exact lw_ret (d0 := s.drawn) (Drawn.sameBut.refl s.drawn lw_cs) hx hb hr hlocks hd
