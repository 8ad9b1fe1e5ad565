/-! THE COPY OF THE FIRST SETTINGS -/
def fs4 (j : Nat) : Int32 := ([3, 1, 2, 50] : List Int32).getD j 0
theorem Wg.copyF {B : BB} {d : Nat} {M : MD} {c n pc N i idx : Nat} {ls : List (Nat × Value)} {st : List Value} {S : Nat → Nat} {C : Nat → va_E} {Q : EndQ} {f : Nat → Int32} (hd : decode M.2.1 pc = .ok (.invokestatic idx, 3)) (hl0 : Cond.methodLink M.1 idx arraycopyName ∈ gTbl) (hw0 : Cond.native arraycopyName ∈ gTbl ∧ Cond.static arraycopyName ∈ gTbl ∧ Cond.initialized "java/lang/System" ∈ gTbl) (hi : i < N) (hC : C i = .inl (bc B 0, 4, .inl f)) (hrest : (st.map fun v => v.category).sum ≤ 8)
    (q : Wg B (d + 1) M c n (pc + 3) ls st S (va_up C i (.inl (bc B 0, 4, .inl (va_cpy fs4 f 0 0 4)))) N Q) : Wg B (d + 1) M c n pc ls (.int 4 :: .int 0 :: .ref (S i) :: .int 0 :: .ref (bF B) :: st) S C N Q := by
  intro p e R s mm args below meth cd H locs L QQ F hf hl hr hw hL hS hk
  have he : (gws S C N)[i]? = some (S i, .inl (bc B 0, 4, .inl f)) := by rw [gws_at hi, hC]
  intro T hT X
  obtain ⟨scr, hs1, ⟨hs6, k0, hk0, cm0, hkk0⟩, hs3, hs4, -, hs5, hs7⟩ := F.2.2.2.2.2.1.2.2.1.1
  have hc0 : H[bF B]? = some scr := by rw [hS.2.1 _ (Array.getElem?_eq_some_iff.mp hs1).1 hs7]; exact hs1
  have hc1 : H[S i]? = some (vp_cell (bc B 0) (4, .inl f)) := hw.1 i _ he
  obtain ⟨-, k1, hk1, cm1, hkk1⟩ := (F.2.2.2.2.2.1.2.1.2 0 (bc B 0, .int) rfl).1 4 (fun j => .int (f j))
  obtain ⟨vm', X', step⟩ := X.arraycopy F.1 F.2.2.2.1 (F.2.2.2.2.1 _ hl0) (F.2.2.2.2.1 _ hw0.1) (F.2.2.2.2.1 _ hw0.2.1) (F.2.2.2.2.1 _ hw0.2.2) (src := bF B) (dst := S i) (cs := scr) (cd := vp_cell (bc B 0) (4, .inl f)) (srcPos := 0) (destPos := 0) (n := 4) (by rw [hT]; exact hc0) (by rw [hT]; exact hc1)
    hs6 (fun _ h => by cases h) hs3 (fun h => by cases h) hk0 hk1 hkk0 hkk1 (by simp [refKind]) (by decide) (by decide) (by decide)
    (by show ¬ ((4 : Int) > (scr.slots.size : Int)); omega)
    (by show ¬ ((4 : Int) > ((arrV (bc B 0) 4 (fun j => .int (f j))).slots.size : Int)); rw [arrV_size]; omega)
    (fun vm₁ _ j hj => by
      have hj4 : j < 4 := hj
      have e : scr.slots.getD ((0 : Int32).toNatClampNeg + j) .null = .int (fs4 j) := by
        rw [show (0 : Int32).toNatClampNeg + j = j by simp, Array.getD_eq_getD_getElem?, hs5 _ hj4]
        rfl
      refine ⟨?_, ?_⟩
      · rw [e]
        rfl
      · rw [e]
        exact trivial)
    (g := F0 mm pc L (.int 4 :: .int 0 :: .ref (S i) :: .int 0 :: .ref (bF B) :: st)) rfl (by rw [F.2.2.1]; exact hL.1) (rest := st) rfl (by rw [F.2.1]; exact hd) (Nat.le_trans (Nat.le_add_left 1 d) hf) (Nat.le_trans (Nat.add_le_add_right (by show 2 * 0 + _ ≤ 8; omega) _) (Nat.le_trans (by decide : 8 + (nativeFrameWords "java/lang/System" "arraycopy" 5 + 11) ≤ 33) (Nat.le_trans (by omega : 33 ≤ 33 * (d + 1)) hl)))
  have e1 : copied scr (vp_cell (bc B 0) (4, .inl f)) 0 0 4 = vp_cell (bc B 0) (4, .inl (va_cpy fs4 f 0 0 4)) := va_copiedX (fun z => .int z) scr (bc B 0) fs4 f hs5 (by decide : 0 + 4 ≤ 4)
  rw [e1] at X' step
  have hl1 : S i < H.size := (Array.getElem?_eq_some_iff.mp hc1).1
  have hheap : ((T.setVm vm').setCell (S i) (vp_cell (bc B 0) (4, .inl (va_cpy fs4 f 0 0 4)))).heap = H.setIfInBounds (S i) (vp_cell (bc B 0) (4, .inl (va_cpy fs4 f 0 0 4))) := by rw [← hT]; rfl
  have oq : ∀ q : Nat, q ≠ S i → (H.setIfInBounds (S i) (vp_cell (bc B 0) (4, .inl (va_cpy fs4 f 0 0 4))))[q]? = H[q]? := fun q hq => by simp [Array.getElem?_setIfInBounds, Ne.symm hq]
  have hP1 := hw.1.set hw.2 he (e := .inl (bc B 0, 4, .inl (va_cpy fs4 f 0 0 4))) (show (H.setIfInBounds (S i) _)[S i]? = some _ by simp [Array.getElem?_setIfInBounds, hl1]) oq
  have hD1 := hw.2.set he (e := .inl (bc B 0, 4, .inl (va_cpy fs4 f 0 0 4)))
  rw [gws_set] at hP1 hD1
  obtain ⟨t, a1, b1⟩ := q p e R s mm args below meth cd _ _ L QQ F hf hl hr ⟨hP1, hD1⟩ hL ⟨by simp; exact hS.1, fun q g1 g2 => by
      rw [oq q (fun e => g2 (by rw [e]; exact hw.2.2 i _ he))]
      exact hS.2.1 q g1 g2, fun q hq => by
      rcases List.mem_append.mp hq with h | h
      · exact hS.2.2 q h
      · obtain ⟨z, -, hz⟩ := List.mem_map.mp h
        rw [← hz]
        exact hw.2.2 i _ he⟩ hk _ hheap X'
  exact ⟨t, step t a1, b1⟩
