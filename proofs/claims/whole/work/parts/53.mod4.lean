/-! THE MODEL: an order -/
theorem in_1 {X : Nat} (hX : X ≤ 12) (x : Int32) : ((¬ x < 0) ∧ (¬ (nI X - 1) < x)) ↔ ∃ p, p < X ∧ x = nI p := by
  rw [← hasX hX x]
  have e : (nI X - 1).toInt = (X : Int) - 1 := by
    rw [Int32.toInt_sub, nI_toInt (by omega), show (1 : Int32).toInt = 1 by decide]
    rw [Int.bmod_eq_of_le] <;> omega
  have q : (¬ (nI X - 1) < x) ↔ ¬ nI X ≤ x := by
    rw [Int32.lt_iff_toInt_lt, e, Int32.le_iff_toInt_le, nI_toInt (by omega)]
    omega
  rw [q]
theorem in_p {X p : Nat} (hX : X ≤ 12) (hp : p < X) : (¬ nI p < 0) ∧ (¬ (nI X - 1) < nI p) := (in_1 hX _).mpr ⟨p, hp, rfl⟩
def ltr (k : Nat) : Int32 := (wdB.getD k []).getD 0 0
section M4
variable {g : GG} {d : Nat} {c n : Nat} {m : PM} {Q : Ou → PM → Nat → Nat → Prop} {K E P : Nat} {τ : Nat → Nat → Nat → Int32}
theorem mo_testFault {x : Int32} (hR : Rel E P τ (m.1 9 21 0)) (hI : Iv K E P τ) (h1 : ¬ (∃ p, p < P ∧ x = nI p) → Q (.inl (some (pI 1))) m c n) (h2 : ∀ p, p < P → x = nI p → ¬ cDay (cCell τ (nI p)) = 0 → Q (.inl (some (pI 2))) m c n) (h0 : ∀ p, p < P → x = nI p → cDay (cCell τ (nI p)) = 0 → Q (.inl (some (pI 0))) m c n) : Wq g (d + 3) MX5_testFault c n 0 [some (pO 20 9 0), some (pI x)] [] m Q := by
  have hP := hI.P12
  refine sgX5_testFault ?_
  rw [ix_2, hR.h (k := 2) (by decide), hI.hP, in_1 hP]
  refine ⟨fun q => ?_, h1⟩
  obtain ⟨p, hp, rfl⟩ := q
  refine mo_slotBy hR hI hp ⟨rfl, rfl, ?_⟩
  dsimp only [cI]
  have h2' := h2 p hp rfl
  have h0' := h0 p hp rfl
  cases e : cCell τ (nI p) with
  | none =>
    rw [e] at h2'
    exact ⟨fun _ => h2' (by decide), fun z => absurd rfl z⟩
  | some i =>
    have hi := cCell_lt e
    rw [e] at h2' h0'
    simp only [cDay] at h2' h0'
    simp only [oI]
    simp (disch := omega) only [ixn, nI_1, nI_add, pk_mul, nI_p0, of0, of1, of2, of3, of4, of5, of6, of7, of8, dv16, dv4, rm4, at_n, pl_n, ce_n, oe_n, oe0, oe1, oe2, ix_0, ix_1, ix_2, ix_3, ix_4, ix_5, ix_6, ix_7, ix_8]
    have z : (nI (i / 16) ≤ 0) ↔ nI (i / 16) = 0 := by
      rw [show (0 : Int32) = nI 0 from rfl, nI_leI (by omega) (by omega)]
      refine ⟨fun z => by rw [show i / 16 = 0 by omega], fun z => by have := nI_i (by omega) (by omega) z; omega⟩
    rw [z]
    exact ⟨fun q => absurd q (nI_m1 (by omega)), fun _ => ⟨h0', h2'⟩⟩
theorem mo_od {k p : Nat} {y : Int32} (hR : Rel E P τ (m.1 9 21 0)) (hV : Vv K E P τ) (hk : (k = 3 ∧ y = 0) ∨ (k = 2 ∧ ¬ y = 0)) (ho : oOk E P τ (k, p, 0) = true) (h : ∀ μ, Fr μ (m.1 9) → Rel E P (oDo E P τ (k, p, 0)) (μ 21 0) → Q (.inl (some (pI (oAns E P τ (k, p, 0))))) (rset m 9 μ) c n) : Wq g (d + 3) MX5_tests c n 0 [some (pO 20 9 0), some (pI (nI p)), some (pI y)] [] m Q := by
  have ho' : p < P ∧ cDay (cCell τ (nI p)) = 0 := by
    rcases hk with ⟨rfl, hx⟩ | ⟨rfl, hx⟩
    · simpa [oOk] using ho
    · simpa [oOk] using ho
  obtain ⟨i, ei, _⟩ := cDay_0 ho'.2
  refine mo_tests hR hV.1 ho'.1 ei (fun y0 μ f r => ?_) (fun y0 μ f r => ?_)
  · rcases hk with ⟨rfl, hx⟩ | ⟨rfl, hx⟩
    · have := h μ f (by simp only [oDo, ei]; simp; exact r)
      simp [oAns, ei] at this
      exact this
    · exact absurd y0 hx
  · rcases hk with ⟨rfl, hx⟩ | ⟨rfl, hx⟩
    · exact absurd hx y0
    · have := h μ f (by simp only [oDo, ei]; simp; exact r)
      simp [oAns, ei] at this
      exact this
theorem mo_does {k a b : Nat} (hR : Rel E P τ (m.1 9 21 0)) (hV : Vv K E P τ) (hK : K + 5 < 2 ^ 31) (hk : k < 6) (ha : a < 12) (hb : b < 10) (hb0 : k < 4 → b = 0) (t0 : m.1 9 26 0 0 = ltr k) (t1 : m.1 9 26 0 1 = nI a) (t2 : m.1 9 26 0 2 = nI b) (h0 : oOk E P τ (k, a, b) = false → Q (.inl (some (pI 0))) m c n) (h1 : oOk E P τ (k, a, b) = true → ∀ μ, Fr μ (m.1 9) → Rel E P (oDo E P τ (k, a, b)) (μ 21 0) → Q (.inl (some (pI 1))) (rset m 9 μ) c n) : Wq g (d + 6) MX5_does c n 0 [some (pO 20 9 0)] [] m Q := by
  have hI := hV.1
  have hP := hI.P12
  have hE := hI.E4
  have e0 := hR.h (k := 0) (by decide)
  have e1 := hR.h (k := 1) (by decide)
  have e2 := hR.h (k := 2) (by decide)
  rw [hI.hE] at e1
  rw [hI.hP] at e2
  have fin0 : ∀ {x : Int32} {m' : PM}, ¬ x = 0 → Q (.inl (some (pI 0))) m' c n → Wq g (d + 6) MX5_does c n 175 [none, none, none, none, some (pI x), none] [] m' Q := fun hx hq => sgX5_does_175 ⟨fun _ => sgX5_does_185 ⟨Or.inl rfl, hq⟩, fun z => absurd z hx⟩
  have fin1 : ∀ {x : Int32} {m' : PM}, Q (.inl (some (pI 1))) m' c n → Wq g (d + 6) MX5_does c n 173 [none, none, none, none, some (pI 0), none] [pI x] m' Q := fun hq => sgX5_does_173 (sgX5_does_175 ⟨fun z => absurd rfl z, fun _ => sgX5_does_185 ⟨Or.inr rfl, hq⟩⟩)
  have tst : ∀ kk y, ltr k = kk → (kk = 112 ∧ k = 2 ∧ y = 1) ∨ (kk = 102 ∧ k = 3 ∧ y = 0) → Wq g (d + 6) MX5_does c n 61 [some (pO 20 9 0), some (pI kk), some (pI (nI a)), some (pI (nI b)), none, none] [] m Q := fun kk y _ hy => by
    have hk4 : k < 4 := by rcases hy with ⟨_, z, _⟩ | ⟨_, z, _⟩ <;> omega
    have b0 := hb0 hk4
    subst b0
    have ok : oOk E P τ (k, a, 0) = decide (a < P ∧ cDay (cCell τ (nI a)) = 0) := by
      rcases hy with ⟨_, z, _⟩ | ⟨_, z, _⟩ <;> subst z <;> simp [oOk]
    rw [ok] at h0
    refine sgX5_does_61 (mo_testFault hR hI (fun q => ⟨rfl, rfl, ?_⟩) (fun p hp ep q => ⟨rfl, rfl, ?_⟩) (fun p hp ep q => ⟨rfl, rfl, ?_⟩))
    · refine sgX5_does_88 ⟨fun _ => fin0 (by decide) (h0 (decide_eq_false fun z => q ⟨a, z.1, rfl⟩)), fun z => absurd z (by decide)⟩
    · refine sgX5_does_88 ⟨fun _ => fin0 (by decide) (h0 (decide_eq_false fun z => q (by rw [← ep]; exact z.2))), fun z => absurd z (by decide)⟩
    · have ho : oOk E P τ (k, a, 0) = true := by
        rw [ok]
        have := nI_i (by omega) (by omega) ep
        subst this
        exact decide_eq_true ⟨hp, q⟩
      rcases hy with ⟨rfl, rfl, rfl⟩ | ⟨rfl, rfl, rfl⟩
      · refine sgX5_does_88 ⟨fun z => absurd rfl z, fun _ => ⟨fun _ => ⟨fun _ => ⟨fun _ => ?_, fun z => absurd rfl z⟩, fun z => absurd z (by decide)⟩, fun z => absurd z (by decide)⟩⟩
        refine sgX5_does_135 ⟨fun z => absurd rfl z, fun _ => sgX5_does_148 ?_⟩
        refine mo_od hR hV (Or.inr ⟨rfl, by decide⟩) ho fun μ f r => ⟨rfl, rfl, fin1 (h1 ho μ f r)⟩
      · refine sgX5_does_88 ⟨fun z => absurd rfl z, fun _ => ⟨fun _ => ⟨fun _ => ⟨fun z => absurd z (by decide), fun _ => ⟨fun z => absurd rfl z, fun _ => ?_⟩⟩, fun z => absurd z (by decide)⟩, fun z => absurd z (by decide)⟩⟩
        refine sgX5_does_135 ⟨fun _ => sgX5_does_148 ?_, fun z => absurd z (by decide)⟩
        refine mo_od hR hV (Or.inl ⟨rfl, rfl⟩) ho fun μ f r => ⟨rfl, rfl, fin1 (h1 ho μ f r)⟩
  refine sgX5_does ?_
  rw [ix_0, ix_1, ix_2, t0, t1, t2]
  have hk' : k = 0 ∨ k = 1 ∨ k = 2 ∨ k = 3 ∨ k = 4 ∨ k = 5 := by omega
  rcases hk' with rfl | rfl | rfl | rfl | rfl | rfl
  · have b0 := hb0 (by decide)
    subst b0
    rw [show ltr 0 = 97 from rfl]
    refine ⟨fun z => absurd rfl z, fun _ => ?_⟩
    rw [e2]
    by_cases q : a < P
    · have ra := hR.p q (k := 0) (by decide)
      simp (disch := omega) only [ixn, nI_1, nI_add, pk_mul, nI_p0, of0, of1, of2, of3, of4, of5, of6, of7, of8, dv16, dv4, rm4, at_n, pl_n, ce_n, oe_n, oe0, oe1, oe2, ix_0, ix_1, ix_2, ix_3, ix_4, ix_5, ix_6, ix_7, ix_8]
      rw [ra, if_pos (in_p hP q)]
      refine ⟨fun _ => ⟨vp_in_nI (by omega) (by decide), trivial⟩, ?_⟩
      by_cases s : τ 4 a 0 = 0
      · rw [if_pos s]
        have ho : oOk E P τ (0, a, 0) = true := by simp [oOk, q, s]
        refine sgX5_does_88 ⟨fun z => absurd rfl z, fun _ => ⟨fun z => absurd rfl z, fun _ => ?_⟩⟩
        refine mo_asks hR hI (by omega) q s fun μ f r => ⟨rfl, rfl, fin1 (h1 ho μ f ?_)⟩
        simp only [oDo]
        simp
        exact r
      · rw [if_neg s]
        exact sgX5_does_88 ⟨fun _ => fin0 (by decide) (h0 (by simp [oOk, s])), fun z => absurd z (by decide)⟩
    · have hn : ¬ ((¬ nI a < 0) ∧ (¬ (nI P - 1) < nI a)) := fun z => by
        obtain ⟨p, hp, e⟩ := (in_1 hP _).mp z
        exact q (by have := nI_i (by omega) (by omega) e; omega)
      rw [if_neg hn]
      exact ⟨fun z => absurd z hn, sgX5_does_88 ⟨fun _ => fin0 (by decide) (h0 (by simp [oOk, q])), fun z => absurd z (by decide)⟩⟩
  · have b0 := hb0 (by decide)
    subst b0
    rw [show ltr 1 = 113 from rfl]
    refine ⟨fun _ => ⟨fun z => absurd rfl z, fun _ => ?_⟩, fun z => absurd z (by decide)⟩
    rw [e2]
    by_cases q : a < P
    · have ra := hR.p q (k := 0) (by decide)
      simp (disch := omega) only [ixn, nI_1, nI_add, pk_mul, nI_p0, of0, of1, of2, of3, of4, of5, of6, of7, of8, dv16, dv4, rm4, at_n, pl_n, ce_n, oe_n, oe0, oe1, oe2, ix_0, ix_1, ix_2, ix_3, ix_4, ix_5, ix_6, ix_7, ix_8]
      rw [ra, if_pos (in_p hP q)]
      refine ⟨fun _ => ⟨vp_in_nI (by omega) (by decide), trivial⟩, ?_⟩
      have s2 : ((¬ τ 4 a 0 < (1 : Int32)) ∧ (¬ (2 : Int32) < τ 4 a 0)) ↔ (τ 4 a 0 = 1 ∨ τ 4 a 0 = 2) := by
        obtain ⟨v, hv, hv4⟩ := hI.2.2.2.2.2.1 a q
        rw [hv]
        have : v = 0 ∨ v = 1 ∨ v = 2 ∨ v = 3 := by omega
        rcases this with rfl | rfl | rfl | rfl <;> decide
      by_cases s : τ 4 a 0 = 1 ∨ τ 4 a 0 = 2
      · rw [if_pos (s2.mpr s)]
        have ho : oOk E P τ (1, a, 0) = true := by simp [oOk, q, s]
        refine sgX5_does_88 ⟨fun z => absurd rfl z, fun _ => ⟨fun _ => ⟨fun z => absurd rfl z, fun _ => ?_⟩, fun z => absurd z (by decide)⟩⟩
        refine mo_quits hR hI (by omega) q fun μ f r => ⟨rfl, rfl, fin1 (h1 ho μ f ?_)⟩
        simp only [oDo]
        simp
        exact r
      · rw [if_neg (fun z => s (s2.mp z))]
        exact sgX5_does_88 ⟨fun _ => fin0 (by decide) (h0 (by simp only [oOk]; simp [s])), fun z => absurd z (by decide)⟩
    · have hn : ¬ ((¬ nI a < 0) ∧ (¬ (nI P - 1) < nI a)) := fun z => by
        obtain ⟨p, hp, e⟩ := (in_1 hP _).mp z
        exact q (by have := nI_i (by omega) (by omega) e; omega)
      rw [if_neg hn]
      exact ⟨fun z => absurd z hn, sgX5_does_88 ⟨fun _ => fin0 (by decide) (h0 (by simp [oOk, q])), fun z => absurd z (by decide)⟩⟩
  · rw [show ltr 2 = 112 from rfl]
    exact ⟨fun _ => ⟨fun _ => ⟨fun _ => tst 112 1 rfl (Or.inl ⟨rfl, rfl, rfl⟩), fun z => absurd rfl z⟩, fun z => absurd z (by decide)⟩, fun z => absurd z (by decide)⟩
  · rw [show ltr 3 = 102 from rfl]
    exact ⟨fun _ => ⟨fun _ => ⟨fun z => absurd z (by decide), fun _ => ⟨fun z => absurd rfl z, fun _ => tst 102 0 rfl (Or.inr ⟨rfl, rfl, rfl⟩)⟩⟩, fun z => absurd z (by decide)⟩, fun z => absurd z (by decide)⟩
  · rw [show ltr 4 = 105 from rfl]
    refine ⟨fun _ => ⟨fun _ => ⟨fun z => absurd z (by decide), fun _ => ⟨fun _ => ⟨fun z => absurd rfl z, fun _ => ?_⟩, fun z => absurd z (by decide)⟩⟩, fun z => absurd z (by decide)⟩, fun z => absurd z (by decide)⟩
    rw [e1, if_pos (show (¬ nI b < 0) ∧ ¬ (9 : Int32) < nI b from (inX (hi := 9) (by decide) (nI b)).mpr ⟨b, by omega, rfl⟩)]
    by_cases q : a < E
    · rw [if_pos (in_p (show E ≤ 12 by omega) q)]
      have ho : oOk E P τ (4, a, b) = true := by simp [oOk, q]
      refine sgX5_does_88 ⟨fun z => absurd rfl z, fun _ => ⟨fun _ => ⟨fun _ => ⟨fun z => absurd z (by decide), fun _ => ⟨fun _ => ⟨fun z => absurd rfl z, fun _ => ?_⟩, fun z => absurd z (by decide)⟩⟩, fun z => absurd z (by decide)⟩, fun z => absurd z (by decide)⟩⟩
      refine mo_cancels hR hI (by omega) q hb fun μ f r => ⟨rfl, rfl, fin1 (h1 ho μ f ?_)⟩
      simp only [oDo]
      simp
      exact r
    · have hn : ¬ ((¬ nI a < 0) ∧ (¬ (nI E - 1) < nI a)) := fun z => by
        obtain ⟨p, hp, e⟩ := (in_1 (show E ≤ 12 by omega) _).mp z
        exact q (by have := nI_i (by omega) (by omega) e; omega)
      rw [if_neg hn]
      exact sgX5_does_88 ⟨fun _ => fin0 (by decide) (h0 (by simp [oOk, q])), fun z => absurd z (by decide)⟩
  · rw [show ltr 5 = 110 from rfl]
    refine ⟨fun _ => ⟨fun _ => ⟨fun z => absurd z (by decide), fun _ => ⟨fun _ => ⟨fun _ => ?_, fun z => absurd z (by decide)⟩, fun z => absurd z (by decide)⟩⟩, fun z => absurd z (by decide)⟩, fun z => absurd z (by decide)⟩
    obtain ⟨D, hD, hD9⟩ := hI.2.2.1
    rw [e0, hD]
    have ok : oOk E P τ (5, a, b) = decide (D < 9999) := by
      simp only [oOk, hD]
      simp
      rw [show (9999 : Int32) = nI 9999 from rfl, ← Int32.not_le, nI_leI (a := 9999) (b := D) (by decide) (by omega)]
      omega
    by_cases q : D < 9999
    · have q' : ¬ nI D = 9999 := fun z => by have := nI_i (by omega) (by decide) (show nI D = nI 9999 from z); omega
      rw [if_pos q']
      have ho : oOk E P τ (5, a, b) = true := by rw [ok]; exact decide_eq_true q
      refine sgX5_does_88 ⟨fun z => absurd rfl z, fun _ => ⟨fun _ => ⟨fun _ => ⟨fun z => absurd z (by decide), fun _ => ⟨fun _ => ⟨fun _ => ?_, fun z => absurd z (by decide)⟩, fun z => absurd z (by decide)⟩⟩, fun z => absurd z (by decide)⟩, fun z => absurd z (by decide)⟩⟩
      refine mo_goesOn hR hI (by omega) ⟨D, hD, q⟩ fun μ f r => ⟨rfl, rfl, fin1 (h1 ho μ f ?_)⟩
      simp only [oDo]
      simp
      exact r
    · have q' : D = 9999 := by omega
      subst q'
      rw [if_neg (fun z => z rfl)]
      exact sgX5_does_88 ⟨fun _ => fin0 (by decide) (h0 (by rw [ok]; decide)), fun z => absurd z (by decide)⟩
end M4
