/-! THE LAW: something that is possible is done -/
theorem and_of (x : Int32) {k : Nat} (hk : k < 2 ^ 31) : ∃ j, j ≤ k ∧ x &&& nI k = nI j := by
  refine ⟨(x.toBitVec &&& BitVec.ofNat 32 k).toNat, ?_, ?_⟩
  · rw [BitVec.toNat_and]
    refine Nat.le_trans Nat.and_le_right ?_
    rw [BitVec.toNat_ofNat]
    exact Nat.mod_le _ _
  · apply Int32.toBitVec_inj.mp
    rw [Int32.toBitVec_and]
    show x.toBitVec &&& BitVec.ofNat 32 k = BitVec.ofNat 32 (x.toBitVec &&& BitVec.ofNat 32 k).toNat
    rw [BitVec.ofNat_toNat, BitVec.setWidth_eq]
theorem low_of (x : Int32) {n : Nat} (h0 : 0 < n) (hn : n < 2 ^ 31) : ∃ r, r < n ∧ irm (x &&& 2147483647) (nI n) = nI r := by
  obtain ⟨j, hj, e⟩ := and_of x (k := 2147483647) (by decide)
  refine ⟨j % n, Nat.mod_lt _ h0, ?_⟩
  rw [show (2147483647 : Int32) = nI 2147483647 from rfl, e]
  exact pk_rem (by omega) h0 hn
theorem mid_of {y : Int32} (h1 : ¬ y ≤ 8) (h2 : ¬ 12 ≤ y) : y = 9 ∨ y = 10 ∨ y = 11 := by
  have h1' : ¬ y.toInt ≤ 8 := fun z => h1 (Int32.le_iff_toInt_le.mpr (by rw [show (8 : Int32).toInt = 8 by decide]; exact z))
  have h2' : ¬ 12 ≤ y.toInt := fun z => h2 (Int32.le_iff_toInt_le.mpr (by rw [show (12 : Int32).toInt = 12 by decide]; exact z))
  rcases (by omega : y.toInt = 9 ∨ y.toInt = 10 ∨ y.toInt = 11) with z | z | z
  · exact Or.inl (Int32.toInt_inj.mp (z.trans (by decide)))
  · exact Or.inr (Or.inl (Int32.toInt_inj.mp (z.trans (by decide))))
  · exact Or.inr (Or.inr (Int32.toInt_inj.mp (z.trans (by decide))))
/-- a test is held -/
def isT (τ : Nat → Nat → Nat → Int32) (x : Int32) (p : Nat) : Prop := ¬ (x &&& 15) ≤ 8 ∧ ¬ 12 ≤ (x &&& 15) ∧ τ 4 p 0 = 2 ∧ cTell (cCell τ (nI p)) 0 = 0
section DO
variable {g : GG} {d : Nat} {c n : Nat} {m : PM} {Q : Ou → PM → Nat → Nat → Prop} {K E P D S : Nat}
theorem ne_0 {a : Nat} (h : 0 < a) (ha : a < 2 ^ 31) : ¬ nI a = 0 := fun z => by
  have := nI_i (b := 0) ha (by decide) z
  omega
theorem day_16 {τ : Nat → Nat → Nat → Int32} {p : Nat} (h : cTell (cCell τ (nI p)) 0 = 0) : ∃ i, cCell τ (nI p) = some i ∧ i < 16 := by
  rw [tell_day] at h
  exact cDay_0 h
/-- what is behind it: at most one examiner, pupil, day more; of a test: the route -/
def After (K E P D : Nat) (τ : Nat → Nat → Nat → Int32) (x : Int32) (p : Nat) (v : Int32) (M : PM) : Prop := ∃ K' E' P' D' S', Ok K' E' P' D' S' M ∧ K' ≤ K + 4 ∧ E ≤ E' ∧ P ≤ P' ∧ D' ≤ D + 1 ∧ (isT τ x p → ∃ i, cCell τ (nI p) = some i ∧ i < 16 ∧ v = nI (cRoute (τ 6 (i % 4)) (τ 4 p 3)) ∧ M.1 0 4 p 3 = v)
theorem do_test {x : Int32} {p : Nat} (hO : Ok K E P D S m) (hp : p < P) (h : ∀ v M, After K E P D (m.1 0) x p v M → Q (.inl (some (pI v))) M c n) : ((¬ m.1 0 4 p 0 = 2 → Q (.inl (some (pI 0))) m c n) ∧ (m.1 0 4 p 0 = 2 → Wp g (d + 6) MX4_pupil 0 [some (pO 10 8 0), some (pI (nI p)), some (pI 5)] [] m (cI fun r44 m45 => ((¬ r44 = 0 → Q (.inl (some (pI 0))) m45 c n) ∧ (r44 = 0 → ((¬ ((x >>> (9 &&& 31)) &&& 3) = 0 → Wp g (d + 6) MX4_test 0 [some (pO 10 8 0), some (pI (nI p)), some (pI 0)] [] m45 (cI fun r48 m49 => Q (.inl (some (pI r48))) m49 c n)) ∧ (((x >>> (9 &&& 31)) &&& 3) = 0 → Wp g (d + 6) MX4_test 0 [some (pO 10 8 0), some (pI (nI p)), some (pI 1)] [] m45 (cI fun r50 m51 => Q (.inl (some (pI r50))) m51 c n)))))))) := by
  refine ⟨fun q => h 0 m ⟨K, E, P, D, S, hO, by omega, by omega, by omega, by omega, fun t => absurd t.2.2.1 q⟩, fun s2 => ?_⟩
  refine ct_pupil hO rfl hp (w := 5) rfl (by decide) (v := cTell (cCell (m.1 0) (nI p)) 0) rfl ⟨fun q => h 0 m ⟨K, E, P, D, S, hO, by omega, by omega, by omega, by omega, fun t => absurd t.2.2.2 q⟩, fun q => ?_⟩
  obtain ⟨i, ei, hi⟩ := day_16 q
  have fin : ∀ M, Ok (K + 4) E P D (min (S + 1) 6) M → M.1 0 4 p 3 = nI (cRoute (m.1 0 6 (i % 4)) (m.1 0 4 p 3)) → Q (.inl (some (pI (nI (cRoute (m.1 0 6 (i % 4)) (m.1 0 4 p 3)))))) M c n := fun M a b => h _ M ⟨_, _, _, _, _, a, by omega, by omega, by omega, by omega, fun _ => ⟨i, ei, hi, rfl, b⟩⟩
  exact ⟨fun _ => ct_test (k := 3) (Or.inl ⟨rfl, rfl⟩) hO rfl hp ei hi fin, fun _ => ct_test (k := 2) (Or.inr ⟨rfl, by decide⟩) hO rfl hp ei hi fin⟩
theorem co_does {x : Int32} {p : Nat} (hO : Ok K E P D S m) (hK : K + 3 < 2 ^ 31) (hD : D < 9999) (hE : 0 < E) (hp : p < P) (ep : irm ((x >>> (4 &&& 31)) &&& 2147483647) (nI P) = nI p) (h : ∀ v M, After K E P D (m.1 0) x p v M → Q (.inl (some (pI v))) M c n) : Wq g (d + 7) ML_does c n 0 [some (pO 10 8 0), some (pI x)] [] m Q := by
  have hE4 := hO.1.E4
  have hP12 := hO.1.P12
  have hP : 0 < P := by omega
  have nP := ne_0 hP (by omega)
  have nE := ne_0 hE (by omega)
  obtain ⟨e, he, ee⟩ := low_of (x >>> (4 &&& 31)) hE (by omega)
  have ok : ∀ v M K' E' P' D' S', ¬ isT (m.1 0) x p → Ok K' E' P' D' S' M → K' ≤ K + 4 → E ≤ E' → P ≤ P' → D' ≤ D + 1 → Q (.inl (some (pI v))) M c n := fun v M K' E' P' D' S' z a b1 b2 b3 b4 => h v M ⟨K', E', P', D', S', a, b1, b2, b3, b4, fun t => absurd t z⟩
  have sk : ¬ isT (m.1 0) x p → Q (.inl (some (pI 0))) m c n := fun z => ok 0 m _ _ _ _ _ z hO (by omega) (by omega) (by omega) (by omega)
  have le8 : ∀ k : Int32, k ≤ 8 → x &&& 15 = k → ¬ isT (m.1 0) x p := fun k hk q t => t.1 (by rw [q]; exact hk)
  refine sgL_does ?_
  refine ct_count hO rfl (w := 2) (by decide) hO.c2 ?_
  refine ct_count hO rfl (w := 1) (by decide) hO.c1 ?_
  refine ⟨fun _ => ⟨⟨nP, trivial⟩, ⟨fun _ => ⟨⟨nE, trivial⟩, ⟨fun _ => ?_, fun q => absurd q nP⟩⟩, fun q => absurd q nE⟩⟩, fun q => absurd q nP⟩
  rw [ep, ee]
  refine ct_pupil hO rfl hp (w := 0) rfl (by decide) (v := m.1 0 4 p 0) rfl ?_
  refine sgL_does_63 ?_
  have lP : ¬ (12 : Int32) ≤ nI P → P < 12 := fun z => by
    rw [show (12 : Int32) = nI 12 from rfl, nI_leI (by decide) (by omega)] at z
    omega
  have lE : ¬ (4 : Int32) ≤ nI E → E < 4 := fun z => by
    rw [show (4 : Int32) = nI 4 from rfl, nI_leI (by decide) (by omega)] at z
    omega
  have pupil : ∀ k : Int32, k ≤ 8 → x &&& 15 = k → ((12 ≤ nI P → Q (.inl (some (pI 0))) m c n) ∧ (¬ 12 ≤ nI P → Wp g (d + 6) MX4_addPupil 0 [some (pO 10 8 0)] [] m (cI fun r3 m4 => Q (.inl (some (pI r3))) m4 c n))) := fun k hk q => ⟨fun _ => sk (le8 k hk q), fun z => ct_addPupil hO (lP z) fun M a => ok _ M _ _ _ _ _ (le8 k hk q) a (by omega) (by omega) (by omega) (by omega)⟩
  have ask : ∀ k : Int32, k ≤ 8 → x &&& 15 = k → ((¬ m.1 0 4 p 0 = 0 → Q (.inl (some (pI 0))) m c n) ∧ (m.1 0 4 p 0 = 0 → Wp g (d + 6) MX4_ask 0 [some (pO 10 8 0), some (pI (nI p))] [] m (cI fun r16 m17 => Q (.inl (some (pI r16))) m17 c n))) := fun k hk q => ⟨fun _ => sk (le8 k hk q), fun s0 => ct_ask hO hK rfl hp s0 fun M a _ _ => ok _ M _ _ _ _ _ (le8 k hk q) a (by omega) (by omega) (by omega) (by omega)⟩
  refine ⟨fun q => pupil 0 (by decide) q, fun _ => ⟨fun q => pupil 1 (by decide) q, fun _ => ⟨fun q => ?_, fun _ => ⟨fun q => ask 3 (by decide) q, fun _ => ⟨fun q => ask 4 (by decide) q, fun _ => ⟨fun q => ask 5 (by decide) q, fun _ => ⟨fun q => ask 6 (by decide) q, fun _ => ⟨fun q => ?_, fun _ => ⟨fun q => ?_, fun _ => ⟨fun _ => do_test hO hp h, fun n9 => ⟨fun _ => do_test hO hp h, fun n10 => ⟨fun _ => do_test hO hp h, fun n11 => ⟨fun q => ?_, fun _ => ?_⟩⟩⟩⟩⟩⟩⟩⟩⟩⟩⟩⟩⟩
  · have z := le8 2 (by decide) q
    exact ⟨fun _ => sk z, fun y => ⟨fun _ => sk z, fun _ => ct_addExaminer hO (lE y) fun M a => ok _ M _ _ _ _ _ z a (by omega) (by omega) (by omega) (by omega)⟩⟩
  · have z := le8 7 (by decide) q
    exact ⟨fun s => ct_quit hO rfl hp (Or.inl s) fun M a _ _ => ok _ M _ _ _ _ _ z a (by omega) (by omega) (by omega) (by omega), fun _ => ⟨fun _ => sk z, fun s => ct_quit hO rfl hp (Or.inr s) fun M a _ _ => ok _ M _ _ _ _ _ z a (by omega) (by omega) (by omega) (by omega)⟩⟩
  · have z := le8 8 (by decide) q
    obtain ⟨b, hb, eb⟩ := low_of (x >>> (7 &&& 31)) (n := 10) (by decide) (by decide)
    exact ⟨fun _ => sk z, fun _ => ⟨⟨by decide, trivial⟩, ct_cancel hO hK rfl he eb (by omega) fun M a _ _ => ok _ M _ _ _ _ _ z a (by omega) (by omega) (by omega) (by omega)⟩⟩
  · have z : ¬ isT (m.1 0) x p := fun t => t.2.1 (by rw [q]; decide)
    obtain ⟨k, hk, ek⟩ := low_of (x >>> (4 &&& 31)) (n := 4) (by decide) (by decide)
    obtain ⟨b, hb, eb⟩ := low_of (x >>> (6 &&& 31)) (n := 10) (by decide) (by decide)
    obtain ⟨j, hj, ej⟩ := and_of (x >>> (6 &&& 31)) (k := 1) (by decide)
    refine ⟨⟨by decide, trivial⟩, ⟨fun k1 => ⟨⟨by decide, trivial⟩, ct_set hO ek (by omega) ?_ fun M v a => ok _ M _ _ _ _ _ z a (by omega) (by omega) (by omega) (by omega)⟩, fun k1 => ct_set hO ek (by omega) ?_ fun M v a => ok _ M _ _ _ _ _ z a (by omega) (by omega) (by omega) (by omega)⟩⟩
    · have eb' : irm ((x >>> (6 &&& 31)) &&& 2147483647) (10 : Int32) = nI b := eb
      have k1' : ¬ k = 1 := fun y => k1 (ek.trans (by rw [y]; rfl))
      rw [eb']
      refine ⟨nI_pos (by omega), ?_⟩
      rcases (by omega : k = 0 ∨ k = 2 ∨ k = 3) with y | y | y <;> subst y
      · show ¬ nI 20 < nI b
        rw [nI_ltI (by decide) (by omega)]; omega
      · show ¬ nI 9 < nI b
        rw [nI_ltI (by decide) (by omega)]; omega
      · show ¬ nI 999 < nI b
        rw [nI_ltI (by decide) (by omega)]; omega
    · have ek' : irm ((x >>> (4 &&& 31)) &&& 2147483647) (4 : Int32) = nI k := ek
      have y : k = 1 := nI_i (b := 1) (by omega) (by decide) (ek'.symm.trans k1)
      subst y
      have ej' : (x >>> (6 &&& 31)) &&& 1 = nI j := ej
      rw [ej']
      refine ⟨nI_pos (by omega), ?_⟩
      show ¬ nI 1 < nI j
      rw [nI_ltI (by decide) (by omega)]; omega
  · have z : ¬ isT (m.1 0) x p := fun t => by
      rcases mid_of t.1 t.2.1 with y | y | y
      · exact n9 y
      · exact n10 y
      · exact n11 y
    exact ct_next hO hD fun M v a => ok _ M _ _ _ _ _ z a (by omega) (by omega) (by omega) (by omega)
end DO
