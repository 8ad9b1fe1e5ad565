/-! THE LAW: is a cancelled morning so -/
section CA
variable {g : GG} {d : Nat} {c n : Nat} {m : PM} {Q : Ou → PM → Nat → Nat → Prop} {K E P D S K2 S2 : Nat} {τ : Nat → Nat → Nat → Int32}
theorem ct_if {x y z v : Int32} {e b w : Nat} {f : Int32 → PM → Prop} (hO : Ok K E P D S m) (hm : m.1 0 = τ) (hK : K + 3 < 2 ^ 31) (hx : x = nI e) (he : e < E) (hy : y = nI b) (hb : b ≤ 9) (hz : z = nI w) (hw : w ≤ 2) (hv : cIf P τ e b w = v) (h : ∀ M, Ok K E P D S M → M.1 0 = τ → f v M) : Wp g (d + 6) MX4_ifCancelled 0 [some (pO 10 8 0), some (pI x), some (pI y), some (pI z)] [] m (cI f) := by
  subst hm
  refine ct_ifCancelled hO hK hx he hy hb hz hw fun τ1 => ?_
  rw [hv]
  exact h _ (Ok_1 hO) (rset_n (by decide))
/-- what a cell's pupil counts for: waits, later by -/
theorem cell_no {e b k : Nat} (hp : ¬ isPu P (τ 2 0 (16 * b + 4 * k + e)) = true) : cWai P τ e b k = 0 ∧ cLat P τ e b k = 0 := by
  unfold cWai cLat
  rw [if_neg hp, if_neg hp]
  exact ⟨rfl, rfl⟩
theorem cell_w {e b k p : Nat} (hI : Iv K E P τ) (hi : 16 * b + 4 * k + e < 160) (hp : p < P) (ep : τ 2 0 (16 * b + 4 * k + e) = nI p) (hW : Ww K2 E P D (m.1 0)) (a : Ap (m.1 0) (give P (fCan0 P τ e b))) (hs : m.1 0 4 p 0 = 1) : cWai P τ e b k = 1 ∧ cLat P τ e b k = 0 := by
  have hpu := (isPu_iff hI hi).mpr ⟨p, hp, ep⟩
  have ec : cNew P τ e b k = -1 := by
    unfold cNew
    rw [ep, ← cCell_ap a]
    cases ec : cCell (m.1 0) (nI p) with
    | none => rfl
    | some i =>
      have := (hW.st2 hp).mpr ⟨i, ec⟩
      rw [hs] at this
      exact absurd this (by decide)
  unfold cWai cLat
  rw [if_pos hpu, if_pos hpu, if_pos ec, if_pos ec]
  exact ⟨rfl, rfl⟩
theorem cell_s {e b k p : Nat} (hI : Iv K E P τ) (hi : 16 * b + 4 * k + e < 160) (hp : p < P) (ep : τ 2 0 (16 * b + 4 * k + e) = nI p) (hW : Ww K2 E P D (m.1 0)) (a : Ap (m.1 0) (give P (fCan0 P τ e b))) (hs : m.1 0 4 p 0 = 2) : cWai P τ e b k = 0 ∧ cLat P τ e b k = cTell (cCell (m.1 0) (nI p)) 0 - nI b := by
  have hpu := (isPu_iff hI hi).mpr ⟨p, hp, ep⟩
  obtain ⟨i, ei⟩ := (hW.st2 hp).mp hs
  have hi' := cCell_lt ei
  have ec : cNew P τ e b k = nI (i / 16) := by
    unfold cNew
    rw [ep, ← cCell_ap a, ei]
    rfl
  have hn : ¬ nI (i / 16) = -1 := nI_m1 (by omega)
  unfold cWai cLat
  rw [if_pos hpu, if_pos hpu, ec, if_neg hn, if_neg hn, ei]
  exact ⟨rfl, rfl⟩
theorem i_less {a b : Int32} : 1000 + a + b - 1000 = a + b := by
  apply Int32.toBitVec_inj.mp
  simp only [Int32.toBitVec_add, Int32.toBitVec_sub]
  show 1000#32 + _ + _ - 1000#32 = _
  bv_omega
theorem co_cancelSo {e b : Nat} {x1 x2 : Int32} (hO : Ok K E P D S m) (hK : K + 3 < 2 ^ 31) (hx1 : x1 = nI e) (he : e < E) (hx2 : x2 = nI b) (hb : b ≤ 9) (h : ∀ M S', Ok K E P D S' M → Q (.inl (some (pI 1))) M c n) : Wq g (d + 7) ML_isCancelSo c n 0 [some (pO 10 8 0), some (pI x1), some (pI x2)] [] m Q := by
  have hE := hO.1.E4
  have hP := hO.1.P12
  subst hx1 hx2
  have hW := hO.1
  generalize hτ : m.1 0 = τ at hW
  have i0 : 16 * b + 4 * 0 + e < 160 := by omega
  have i1 : 16 * b + 4 * 1 + e < 160 := by omega
  refine sgL_isCancelSo ?_
  refine ct_if hO hτ hK rfl he rfl hb (w := 0) rfl (by decide) (v := nI (cMoved P τ e b)) rfl fun m1 hO1 h1 => ?_
  refine ct_if hO1 h1 hK rfl he rfl hb (w := 1) rfl (by decide) (v := cWai P τ e b 0 + cWai P τ e b 1) rfl fun m2 hO2 h2 => ?_
  refine ct_if hO2 h2 hK rfl he rfl hb (w := 2) rfl (by decide) (v := 1000 + cLat P τ e b 0 + cLat P τ e b 1) rfl fun m3 hO3 h3 => ?_
  refine ct_slot hO3 rfl he rfl hb (k := 0) rfl (by decide) (v := τ 2 0 (16 * b + 4 * 0 + e)) (by rw [h3]) ?_
  refine ct_slot hO3 rfl he rfl hb (k := 1) rfl (by decide) (v := τ 2 0 (16 * b + 4 * 1 + e)) (by rw [h3]) ?_
  refine ct_cancel hO3 hK rfl he rfl hb fun m4 hO4 a4 w4 => ?_
  rw [h3] at a4
  have c40 : m4.1 0 2 0 (16 * b + 4 * 0 + e) = -2 := by rw [a4 2 (by decide)]; exact can_closed (by decide)
  have c41 : m4.1 0 2 0 (16 * b + 4 * 1 + e) = -2 := by rw [a4 2 (by decide)]; exact can_closed (by decide)
  have k236 : ∀ M v, Ok K E P D v M → Cp (M.1 0) τ → v ≤ 6 → Wq g (d + 7) ML_isCancelSo c n 236 [some (pO 10 8 0), some (pI (nI e)), some (pI (nI b)), none, some (pI (cWai P τ e b 0 + cWai P τ e b 1)), some (pI (1000 + cLat P τ e b 0 + cLat P τ e b 1 - 1000)), some (pI (τ 2 0 (16 * b + 4 * 0 + e))), some (pI (τ 2 0 (16 * b + 4 * 1 + e))), some (pI 1), some (pI (cWai P τ e b 0 + cWai P τ e b 1)), some (pI (cLat P τ e b 0 + cLat P τ e b 1)), some (pI (nI v))] [] M Q := fun M v hOM cM hv => by
    refine sgL_isCancelSo_236 ⟨fun q => absurd q (by decide), fun _ => ⟨fun q => absurd rfl q, fun _ => ⟨fun q => absurd i_less.symm q, fun _ => ⟨fun q => absurd q (nI_pos (by omega)), fun _ => ?_⟩⟩⟩⟩
    refine ct_slot hOM rfl he rfl hb (k := 0) rfl (by decide) (cM.2.2.1 _ i0) ⟨fun q => absurd rfl q, fun _ => ?_⟩
    exact ct_slot hOM rfl he rfl hb (k := 1) rfl (by decide) (cM.2.2.1 _ i1) ⟨fun q => absurd rfl q, fun _ => h M v hOM⟩
  have k230 : Wq g (d + 7) ML_isCancelSo c n 230 [some (pO 10 8 0), some (pI (nI e)), some (pI (nI b)), none, some (pI (cWai P τ e b 0 + cWai P τ e b 1)), some (pI (1000 + cLat P τ e b 0 + cLat P τ e b 1 - 1000)), some (pI (τ 2 0 (16 * b + 4 * 0 + e))), some (pI (τ 2 0 (16 * b + 4 * 1 + e))), some (pI 1), some (pI (cWai P τ e b 0 + cWai P τ e b 1)), some (pI (cLat P τ e b 0 + cLat P τ e b 1)), none] [] m4 Q := by
    refine sgL_isCancelSo_230 (ct_undo hO4 w4.1 hO3.1 fun m5 hO5 c5 _ => ?_)
    rw [h3] at c5
    exact k236 m5 _ hO5 c5 (by omega)
  have pup : ∀ k p, k < 2 → 16 * b + 4 * k + e < 160 → p < P → τ 2 0 (16 * b + 4 * k + e) = nI p → (m4.1 0 4 p 0 = 1 ∧ cWai P τ e b k = 1 ∧ cLat P τ e b k = 0) ∨ (m4.1 0 4 p 0 = 2 ∧ cWai P τ e b k = 0 ∧ cLat P τ e b k = cTell (cCell (m4.1 0) (nI p)) 0 - nI b) := fun k p hk hi hp ep => by
    have s12 := can_12 (b := b) (e := e) hk hP hp ep
    rw [← a4 4 (by decide)] at s12
    rcases s12 with s | s
    · exact Or.inl ⟨s, cell_w hW.1.1 hi hp ep hO4.1 a4 s⟩
    · exact Or.inr ⟨s, cell_s hW.1.1 hi hp ep hO4.1 a4 s⟩
  have k175 : Wq g (d + 7) ML_isCancelSo c n 175 [some (pO 10 8 0), some (pI (nI e)), some (pI (nI b)), none, some (pI (cWai P τ e b 0 + cWai P τ e b 1)), some (pI (1000 + cLat P τ e b 0 + cLat P τ e b 1 - 1000)), some (pI (τ 2 0 (16 * b + 4 * 0 + e))), some (pI (τ 2 0 (16 * b + 4 * 1 + e))), some (pI 1), some (pI (cWai P τ e b 0)), some (pI (cLat P τ e b 0)), none] [] m4 Q := by
    refine sgL_isCancelSo_175 ⟨fun q => ?_, fun q => ?_⟩
    · obtain ⟨z1, z2⟩ := cell_no (τ := τ) (P := P) (e := e) (b := b) (k := 1) fun z => (pu_neg hW.1.1 i1).mp z q
      rw [z1, z2] at k230
      rw [z1, z2]
      simp only [i_0] at k230 ⊢
      exact k230
    · obtain ⟨p, hp, ep⟩ := (isPu_iff hW.1.1 i1).mp ((pu_neg hW.1.1 i1).mpr q)
      rcases pup 1 p (by decide) i1 hp ep with ⟨s, z1, z2⟩ | ⟨s, z1, z2⟩
      · rw [z1, z2] at k230
        rw [z1, z2]
        refine ct_pupil hO4 ep hp (w := 0) rfl (by decide) (v := 1) s ⟨fun q => absurd rfl q, fun _ => ?_⟩
        refine ct_pupil hO4 ep hp (w := 0) rfl (by decide) (v := 1) s ⟨fun q => absurd rfl q, fun _ => ?_⟩
        exact k230
      · rw [z1, z2] at k230
        rw [z1, z2]
        refine ct_pupil hO4 ep hp (w := 0) rfl (by decide) (v := 2) s ⟨fun _ => ?_, fun q => absurd q (by decide)⟩
        refine ct_pupil hO4 ep hp (w := 0) rfl (by decide) (v := 2) s ⟨fun _ => ?_, fun q => absurd q (by decide)⟩
        exact ct_pupil hO4 ep hp (w := 5) rfl (by decide) (v := cTell (cCell (m4.1 0) (nI p)) 0) rfl k230
  have k114 : Wq g (d + 7) ML_isCancelSo c n 114 [some (pO 10 8 0), some (pI (nI e)), some (pI (nI b)), none, some (pI (cWai P τ e b 0 + cWai P τ e b 1)), some (pI (1000 + cLat P τ e b 0 + cLat P τ e b 1 - 1000)), some (pI (τ 2 0 (16 * b + 4 * 0 + e))), some (pI (τ 2 0 (16 * b + 4 * 1 + e))), some (pI 1), none, none, none] [] m4 Q := by
    refine sgL_isCancelSo_114 ⟨fun q => ?_, fun q => ?_⟩
    · obtain ⟨z1, z2⟩ := cell_no (τ := τ) (P := P) (e := e) (b := b) (k := 0) fun z => (pu_neg hW.1.1 i0).mp z q
      rw [z1, z2] at k175
      rw [z1, z2]
      exact k175
    · obtain ⟨p, hp, ep⟩ := (isPu_iff hW.1.1 i0).mp ((pu_neg hW.1.1 i0).mpr q)
      rcases pup 0 p (by decide) i0 hp ep with ⟨s, z1, z2⟩ | ⟨s, z1, z2⟩
      · rw [z1, z2] at k175
        rw [z1, z2]
        refine ct_pupil hO4 ep hp (w := 0) rfl (by decide) (v := 1) s ⟨fun q => absurd rfl q, fun _ => ?_⟩
        refine ct_pupil hO4 ep hp (w := 0) rfl (by decide) (v := 1) s ⟨fun q => absurd rfl q, fun _ => ?_⟩
        simp only [i_z] at k175 ⊢
        exact k175
      · rw [z1, z2] at k175
        rw [z1, z2]
        refine ct_pupil hO4 ep hp (w := 0) rfl (by decide) (v := 2) s ⟨fun _ => ?_, fun q => absurd q (by decide)⟩
        refine ct_pupil hO4 ep hp (w := 0) rfl (by decide) (v := 2) s ⟨fun _ => ?_, fun q => absurd q (by decide)⟩
        refine ct_pupil hO4 ep hp (w := 5) rfl (by decide) (v := cTell (cCell (m4.1 0) (nI p)) 0) rfl ?_
        simp only [i_z] at k175 ⊢
        exact k175
  refine ⟨fun q => absurd (by rw [h3]) q, fun _ => ?_⟩
  refine ct_slot hO4 rfl he rfl hb (k := 0) rfl (by decide) c40 ⟨fun q => absurd rfl q, fun _ => ?_⟩
  refine ct_slot hO4 rfl he rfl hb (k := 1) rfl (by decide) c41 ⟨fun q => absurd rfl q, fun _ => ?_⟩
  have n0 := pu_neg hW.1.1 i0
  have n1 := pu_neg hW.1.1 i1
  unfold cMoved
  refine ⟨fun q0 => ⟨fun q1 => ?_, fun q1 => ?_⟩, fun q0 => ⟨fun q1 => ?_, fun q1 => ?_⟩⟩
  · rw [if_neg fun z => n0.mp z q0, if_neg fun z => n1.mp z q1]
    exact ⟨fun q => absurd (by decide) q, fun _ => k114⟩
  · rw [if_neg fun z => n0.mp z q0, if_pos (n1.mpr q1)]
    exact ⟨fun q => absurd (by decide) q, fun _ => k114⟩
  · rw [if_pos (n0.mpr q0), if_neg fun z => n1.mp z q1]
    exact ⟨fun q => absurd (by decide) q, fun _ => k114⟩
  · rw [if_pos (n0.mpr q0), if_pos (n1.mpr q1)]
    exact ⟨fun q => absurd (by decide) q, fun _ => k114⟩
end CA
