/-! THE MODEL: reading an order -/
/-- the model's text: where it stands, and whether it is wrong -/
def Sg (μ0 μ : Nat → Nat → Nat → Int32) (i w : Nat) : Prop := (∀ t, t ≠ 20 → μ t = μ0 t) ∧ (∀ k, k ≠ 8 → k ≠ 9 → μ 20 0 k = μ0 20 0 k) ∧ μ 20 0 8 = nI i ∧ μ 20 0 9 = nI w
def SgO (μ0 μ : Nat → Nat → Nat → Int32) (i w : Nat) : Prop := (∀ t, t ≠ 20 → t ≠ 26 → μ t = μ0 t) ∧ (∀ k, k ≠ 8 → k ≠ 9 → μ 20 0 k = μ0 20 0 k) ∧ μ 20 0 8 = nI i ∧ μ 20 0 9 = nI w
theorem Sg_tr {a b e : Nat → Nat → Nat → Int32} {i w i' w' : Nat} (h : Sg a b i w) (k : Sg b e i' w') : Sg a e i' w' := ⟨fun t q => (k.1 t q).trans (h.1 t q), fun t q r => (k.2.1 t q r).trans (h.2.1 t q r), k.2.2.1, k.2.2.2⟩
theorem SgO_tr {a b e : Nat → Nat → Nat → Int32} {i w i' w' : Nat} (h : SgO a b i w) (k : Sg b e i' w') : SgO a e i' w' := ⟨fun t q r => (k.1 t q).trans (h.1 t q r), fun t q r => (k.2.1 t q r).trans (h.2.1 t q r), k.2.2.1, k.2.2.2⟩
theorem SgO_26 {a b : Nat → Nat → Nat → Int32} {i w k : Nat} {x : Int32} (h : SgO a b i w) : SgO a (tI b 26 0 k x) i w := ⟨fun t q r => by rw [tI_t r]; exact h.1 t q r, fun k q r => by rw [tI_t (by decide)]; exact h.2.1 k q r, by rw [tI_t (by decide)]; exact h.2.2.1, by rw [tI_t (by decide)]; exact h.2.2.2⟩
theorem Sg_O {a b : Nat → Nat → Nat → Int32} {i w : Nat} (h : Sg a b i w) : SgO a b i w := ⟨fun t q _ => h.1 t q, h.2⟩
theorem dg_ch {T : Nat → Int32} {L i : Nat} (h : (¬ ch T L i < 48) ∧ (¬ 57 < ch T L i)) : ∃ v, v < 10 ∧ ch T L i = nI (48 + v) ∧ dgI T L i = nI v ∧ i < L := by
  have h1 : 48 ≤ ch T L i := Int32.not_lt.mp h.1
  have h2 : ch T L i ≤ 57 := Int32.not_lt.mp h.2
  obtain ⟨p, hp, e⟩ := (inX (hi := 57) (by decide) (ch T L i)).mp ⟨fun z => by
    have a := Int32.lt_iff_toInt_lt.mp z
    have b := Int32.le_iff_toInt_le.mp h1
    rw [show (0 : Int32).toInt = 0 by decide] at a
    rw [show (48 : Int32).toInt = 48 by decide] at b
    omega, h.2⟩
  rw [e, show (48 : Int32) = nI 48 from rfl, nI_leI (by decide) (by omega)] at h1
  have hi : i < L := Classical.byContradiction fun z => by
    rw [ch_ge (by omega)] at e
    have := nI_i (by decide) (by omega) (show nI 0 = nI p from e)
    omega
  refine ⟨p - 48, by omega, by rw [e]; congr 1; omega, ?_, hi⟩
  unfold dgI
  rw [if_pos ⟨Int32.not_lt.mp h.1, h2⟩, e, show (48 : Int32) = nI 48 from rfl]
  have : nI p = nI (p - 48) + nI 48 := by rw [nI_add]; congr 1; omega
  rw [this, Int32.add_sub_cancel]
theorem dg_no {T : Nat → Int32} {L i : Nat} (h : ¬ ((¬ ch T L i < 48) ∧ (¬ 57 < ch T L i))) : dgI T L i = -1 := by
  unfold dgI
  rw [if_neg (fun z => h ⟨Int32.not_lt.mpr z.1, Int32.not_lt.mpr z.2⟩)]
theorem sub48 {v : Nat} : nI (48 + v) - 48 = nI v := by
  have : nI (48 + v) = nI v + nI 48 := by rw [nI_add]; congr 1; omega
  rw [this]
  exact Int32.add_sub_cancel _ _
theorem add48 {v : Nat} : (10 + nI (48 + v)) - 48 = nI (10 + v) := by
  have : (10 : Int32) + nI (48 + v) = nI (48 + (10 + v)) := by rw [show (10 : Int32) = nI 10 from rfl, nI_add]; congr 1; omega
  rw [this, sub48]
theorem tn_no {T : Nat → Int32} {L i : Nat} {hi : Int32} (h : dgI T L i = -1) : tnum T L hi i = (-1, i) := by
  unfold tnum
  rw [if_pos (Or.inl h)]
theorem tn_v {T : Nat → Int32} {L i v hi : Nat} (hh : hi < 100) (h : dgI T L i = nI v) (hv : v < 10) : tnum T L (nI hi) i = if hi < v then (-1, i) else if v = 0 ∨ dgI T L (i + 1) = -1 ∨ ¬ 10 * dgI T L i + dgI T L (i + 1) ≤ nI hi then (nI v, i + 1) else (10 * dgI T L i + dgI T L (i + 1), i + 2) := by
  unfold tnum
  have a : (dgI T L i = -1 ∨ ¬ dgI T L i ≤ nI hi) ↔ hi < v := by
    rw [h, nI_leI (by omega) (by omega)]
    refine ⟨fun z => ?_, fun z => Or.inr (by omega)⟩
    rcases z with z | z
    · exact absurd z (nI_m1 (by omega))
    · omega
  have b : dgI T L i = 0 ↔ v = 0 := by
    rw [h]
    exact ⟨fun z => nI_i (by omega) (by decide) (show nI v = nI 0 from z), fun z => by rw [z]; rfl⟩
  by_cases q : hi < v
  · rw [if_pos (a.mpr q), if_pos q]
  · rw [if_neg (fun z => q (a.mp z)), if_neg q]
    by_cases q2 : v = 0 ∨ dgI T L (i + 1) = -1 ∨ ¬ 10 * dgI T L i + dgI T L (i + 1) ≤ nI hi
    · rw [if_pos q2, if_pos (q2.imp b.mpr id), h]
    · rw [if_neg q2, if_neg (fun z => q2 (z.imp b.mp id))]
theorem tn_small {T : Nat → Int32} {L i v hi : Nat} (hh : hi < 10) (h : dgI T L i = nI v) (hv : v ≤ hi) : tnum T L (nI hi) i = (nI v, i + 1) := by
  rw [tn_v (by omega) h (by omega), if_neg (by omega)]
  by_cases v0 : v = 0
  · rw [if_pos (Or.inl v0)]
  · rcases dg_cases (T := T) (L := L) (i + 1) with z | ⟨_, w, hw, e⟩
    · rw [if_pos (Or.inr (Or.inl z))]
    · rw [if_pos (Or.inr (Or.inr ?_))]
      rw [h, e, show (10 : Int32) = nI 10 from rfl, pk_mul, nI_add, nI_leI (by omega) (by omega)]
      omega
theorem tn_11 {T : Nat → Int32} {L i v : Nat} (h : dgI T L i = nI v) (hv : v < 10) : tnum T L (nI 11) i = if v = 1 ∧ (¬ ch T L (i + 1) < 48) ∧ (¬ 49 < ch T L (i + 1)) then ((10 + ch T L (i + 1)) - 48, i + 2) else (nI v, i + 1) := by
  rw [tn_v (by decide) h hv, if_neg (by omega)]
  by_cases q : (¬ ch T L (i + 1) < 48) ∧ (¬ 57 < ch T L (i + 1))
  · obtain ⟨w, hw, e, e2, _⟩ := dg_ch q
    have c49 : (¬ ch T L (i + 1) < 48) ∧ (¬ 49 < ch T L (i + 1)) ↔ w ≤ 1 := by
      rw [e, show (49 : Int32) = nI 49 from rfl, show (48 : Int32) = nI 48 from rfl, ← Int32.not_le, ← Int32.not_le, nI_leI (by omega) (by omega), nI_leI (by omega) (by omega)]
      omega
    have cc : (v = 0 ∨ dgI T L (i + 1) = -1 ∨ ¬ 10 * dgI T L i + dgI T L (i + 1) ≤ nI 11) ↔ ¬ (v = 1 ∧ w ≤ 1) := by
      rw [h, e2, show (10 : Int32) = nI 10 from rfl, pk_mul, nI_add, nI_leI (by omega) (by omega)]
      refine ⟨fun z => ?_, fun z => ?_⟩
      · rcases z with z | z | z
        · omega
        · exact absurd z (nI_m1 (by omega))
        · omega
      · by_cases v0 : v = 0
        · exact Or.inl v0
        · exact Or.inr (Or.inr (by omega))
    by_cases z : v = 1 ∧ w ≤ 1
    · rw [if_neg (fun y => cc.mp y z), if_pos ⟨z.1, c49.mpr z.2⟩, h, e2, e, add48, z.1, show (10 : Int32) = nI 10 from rfl, pk_mul, nI_add]
    · rw [if_pos (cc.mpr z), if_neg (fun y => z ⟨y.1, c49.mp y.2⟩)]
  · rw [if_pos (Or.inr (Or.inl (dg_no q))), if_neg (fun z => q ⟨z.2.1, fun y => z.2.2 (Int32.lt_trans (by decide) y)⟩)]
section M5
variable {g : GG} {d : Nat} {c n : Nat} {m : PM} {Q : Ou → PM → Nat → Nat → Prop} {L i w : Nat}
theorem mo_sign {lo hi : Int32} (hl : m.1 9 20 0 6 = nI L) (hL : L ≤ 60) (h8 : m.1 9 20 0 8 = nI i) (hi' : i ≤ L) (h9 : m.1 9 20 0 9 = nI w) (hw : w ≤ 1) (hlo : (0 : Int32) < lo) (hok : w = 0 → (¬ ch (m.1 9 24 0) L i < lo) ∧ (¬ hi < ch (m.1 9 24 0) L i) → i < L → ∀ μ, Sg (m.1 9) μ (i + 1) 0 → Q (.inl (some (pI (ch (m.1 9 24 0) L i)))) (rset m 9 μ) c n) (hno : (w = 0 → ¬ ((¬ ch (m.1 9 24 0) L i < lo) ∧ (¬ hi < ch (m.1 9 24 0) L i))) → ∀ μ, Sg (m.1 9) μ i 1 → Q (.inl (some (pI (ch (m.1 9 24 0) L i)))) (rset m 9 μ) c n) : Wq g (d + 1) MX5_sign c n 0 [some (pO 20 9 0), some (pI lo), some (pI hi)] [] m Q := by
  have w0 : m.1 9 20 0 9 = 0 ↔ w = 0 := by
    rw [h9]
    exact ⟨fun z => nI_i (by omega) (by decide) (show nI w = nI 0 from z), fun z => by rw [z]; rfl⟩
  have fin : ∀ x3 s0 ii ww, s0 = nI ww → ((ww = 0 ∧ ii = i + 1) ∨ (ww = 1 ∧ ii = i)) → (∀ μ, Sg (m.1 9) μ ii ww → Q (.inl (some (pI x3))) (rset m 9 μ) c n) → Wq g (d + 1) MX5_sign c n 47 [some (pO 20 9 0), none, none, some (pI x3)] [pI s0, pO 20 9 0] m Q := fun x3 s0 ii ww e0 hw hq => by
    subst e0
    refine sgX5_sign_47 ?_
    simp (disch := omega) only [ixn, nI_1, nI_add, pk_mul, nI_p0, of0, of1, of2, of3, of4, of5, of6, of7, of8, dv16, dv4, rm4, at_n, pl_n, ce_n, oe_n, oe0, oe1, oe2, ix_0, ix_1, ix_2, ix_3, ix_4, ix_5, ix_6, ix_7, ix_8, setI_eq, rset_rset, rset_s, rset_2, tI_s, tI_t, tI_j, tI_k]
    rw [h8]
    have go : ∀ t, nI i + t = nI ii → Wq g (d + 1) MX5_sign c n 67 [none, none, none, some (pI x3)] [pI t, pI (nI i), pO 20 9 0] (rset m 9 (tI (m.1 9) 20 0 9 (nI ww))) Q := fun t ht => by
      refine sgX5_sign_67 ?_
      rw [ht]
      simp (disch := omega) only [ixn, nI_1, nI_add, pk_mul, nI_p0, of0, of1, of2, of3, of4, of5, of6, of7, of8, dv16, dv4, rm4, at_n, pl_n, ce_n, oe_n, oe0, oe1, oe2, ix_0, ix_1, ix_2, ix_3, ix_4, ix_5, ix_6, ix_7, ix_8, setI_eq, rset_rset, rset_s, rset_2, tI_s, tI_t, tI_j, tI_k]
      refine hq _ ⟨fun t q => by rw [tI_t q, tI_t q], fun k q r => by simp (disch := omega) only [setI_eq, rset_rset, rset_s, rset_2, tI_s, tI_t, tI_j, tI_k], by simp (disch := omega) only [setI_eq, rset_rset, rset_s, rset_2, tI_s, tI_t, tI_j, tI_k], by simp (disch := omega) only [setI_eq, rset_rset, rset_s, rset_2, tI_s, tI_t, tI_j, tI_k]⟩
    rcases hw with ⟨rfl, rfl⟩ | ⟨rfl, rfl⟩
    · exact ⟨Or.inl rfl, fun _ => go 1 (nI_add _ 1), fun z => absurd rfl z⟩
    · exact ⟨Or.inr rfl, fun z => absurd z (by decide), fun _ => go 0 (by rw [nI_p0])⟩
  have mid : Wq g (d + 1) MX5_sign c n 24 [some (pO 20 9 0), some (pI lo), some (pI hi), none] [pI (ch (m.1 9 24 0) L i)] m Q := by
    refine sgX5_sign_24 ⟨fun q => sgX5_sign_42 (fin _ 1 i 1 rfl (Or.inr ⟨rfl, rfl⟩) (hno fun z => absurd (w0.mpr z) q)), fun q => ⟨fun q2 => ?_, fun q2 => sgX5_sign_42 (fin _ 1 i 1 rfl (Or.inr ⟨rfl, rfl⟩) (hno fun _ => q2))⟩⟩
    refine fin _ 0 (i + 1) 0 rfl (Or.inl ⟨rfl, rfl⟩) (hok (w0.mp q) q2 ?_)
    refine Classical.byContradiction fun z => q2.1 ?_
    rw [ch_ge (by omega)]
    exact hlo
  refine sgX5_sign ?_
  rw [hl, h8, nI_leI (by omega) (by omega)]
  refine ⟨fun q => ?_, fun q => ⟨vp_in_nI (by omega) (by decide), ?_⟩⟩
  · rw [ch_ge q] at mid
    exact mid
  · rw [ch_lt (by omega)] at mid
    rw [ixn (by omega)]
    exact mid
def mWw (T : Nat → Int32) (L : Nat) (l : List Int32) (i w : Nat) : Nat × Nat := if w = 0 then ((mW T L l i).2, if (mW T L l i).1 then 0 else 1) else (i, 1)
theorem mo_word_3 {x1 : Int32} {T : Nat → Int32} (hL : L ≤ 60) {μ0 : Nat → Nat → Nat → Int32} (hT : μ0 24 0 = T) (hl : μ0 20 0 6 = nI L) : ∀ (k : Nat) (x2 : Int32) (l : List Int32), ((k = 0 ∧ x2 = 0 ∧ l = []) ∨ (k = 1 ∧ x2 = 1 ∧ l = (if irm (x1 / 1) 256 = 0 then [] else [irm (x1 / 1) 256])) ∨ (k = 2 ∧ x2 = 256 ∧ l = (if irm (x1 / 256) 256 = 0 then [] else [irm (x1 / 256) 256]) ++ (if irm (x1 / 1) 256 = 0 then [] else [irm (x1 / 1) 256])) ∨ (k = 3 ∧ x2 = 65536 ∧ l = (if irm (x1 / 65536) 256 = 0 then [] else [irm (x1 / 65536) 256]) ++ ((if irm (x1 / 256) 256 = 0 then [] else [irm (x1 / 256) 256]) ++ (if irm (x1 / 1) 256 = 0 then [] else [irm (x1 / 1) 256])))) → (∀ a ∈ l, (0 : Int32) < a) → ∀ (i w : Nat) (μ : Nat → Nat → Nat → Int32), i ≤ L → w ≤ 1 → Sg μ0 μ i w → (∀ μ', Sg μ0 μ' (mWw T L l i w).1 (mWw T L l i w).2 → Q (.inl none) (rset m 9 μ') c n) → Wq g (d + 2) MX5_word c n 3 [some (pO 20 9 0), some (pI x1), some (pI x2), none, none] [] (rset m 9 μ) Q := by
  intro k
  induction k with
  | zero =>
    intro x2 l hk _ i w μ hi hw s hq
    rcases hk with ⟨_, rfl, rfl⟩ | ⟨z, _⟩ | ⟨z, _⟩ | ⟨z, _⟩
    · refine sgX5_word_3 ⟨fun _ => ?_, fun z => absurd (by decide) z⟩
      refine hq μ ?_
      unfold mWw
      by_cases w0 : w = 0
      · subst w0
        exact s
      · rw [if_neg w0]
        rwa [show w = 1 by omega] at s
    all_goals omega
  | succ k ih =>
    intro x2 l hk hpos i w μ hi hw s hq
    obtain ⟨l2, x3, hx0, hx, e3, el, h2⟩ : ∃ l2 x3, ¬ x2 ≤ 0 ∧ ¬ x2 = 0 ∧ x2 / 256 = x3 ∧ l = (if irm (x1 / x2) 256 = 0 then [] else [irm (x1 / x2) 256]) ++ l2 ∧ ((k = 0 ∧ x3 = 0 ∧ l2 = []) ∨ (k = 1 ∧ x3 = 1 ∧ l2 = (if irm (x1 / 1) 256 = 0 then [] else [irm (x1 / 1) 256])) ∨ (k = 2 ∧ x3 = 256 ∧ l2 = (if irm (x1 / 256) 256 = 0 then [] else [irm (x1 / 256) 256]) ++ (if irm (x1 / 1) 256 = 0 then [] else [irm (x1 / 1) 256])) ∨ (k = 3 ∧ x3 = 65536 ∧ l2 = (if irm (x1 / 65536) 256 = 0 then [] else [irm (x1 / 65536) 256]) ++ ((if irm (x1 / 256) 256 = 0 then [] else [irm (x1 / 256) 256]) ++ (if irm (x1 / 1) 256 = 0 then [] else [irm (x1 / 1) 256])))) := by
      rcases hk with ⟨z, _⟩ | ⟨z, rfl, rfl⟩ | ⟨z, rfl, rfl⟩ | ⟨z, rfl, rfl⟩
      · omega
      · exact ⟨[], 0, by decide, by decide, by decide, (List.append_nil _).symm, Or.inl ⟨by omega, rfl, rfl⟩⟩
      · exact ⟨_, 1, by decide, by decide, by decide, rfl, Or.inr (Or.inl ⟨by omega, rfl, rfl⟩)⟩
      · exact ⟨_, 256, by decide, by decide, by decide, rfl, Or.inr (Or.inr (Or.inl ⟨by omega, rfl, rfl⟩))⟩
    refine sgX5_word_3 ⟨fun z => absurd z hx0, fun _ => ⟨hx, fun q => ?_, fun q => ?_⟩⟩
    · rw [if_neg q] at el
      rw [e3]
      have hp := hpos (irm (x1 / x2) 256) (by rw [el]; simp)
      have hp2 : ∀ a ∈ l2, (0 : Int32) < a := fun a ha => hpos a (by rw [el]; simp [ha])
      have s6 : (rset m 9 μ).1 9 20 0 6 = nI L := by rw [rset_s, s.2.1 6 (by decide) (by decide), hl]
      have s24 : (rset m 9 μ).1 9 24 0 = T := by rw [rset_s, s.1 24 (by decide), hT]
      refine mo_sign (L := L) (i := i) (w := w) s6 hL (by rw [rset_s]; exact s.2.2.1) hi (by rw [rset_s]; exact s.2.2.2) hw hp (fun w0 q2 hiL μ1 g1 => ⟨rfl, rfl, ?_⟩) (fun q2 μ1 g1 => ⟨rfl, rfl, ?_⟩)
      · dsimp only [cI]
        rw [rset_rset]
        rw [rset_s] at g1
        refine ih x3 l2 h2 hp2 (i + 1) 0 μ1 (by omega) (by decide) (Sg_tr s g1) ?_
        subst w0
        rw [s24] at q2
        have e : ch T L i = irm (x1 / x2) 256 := Int32.le_antisymm (Int32.not_lt.mp q2.2) (Int32.not_lt.mp q2.1)
        rw [el] at hq
        unfold mWw at hq ⊢
        rw [List.singleton_append, mW, if_pos e] at hq
        exact hq
      · dsimp only [cI]
        rw [rset_rset]
        rw [rset_s] at g1
        refine ih x3 l2 h2 hp2 i 1 μ1 hi (by decide) (Sg_tr s g1) ?_
        rw [s24] at q2
        rw [el] at hq
        unfold mWw at hq ⊢
        by_cases w0 : w = 0
        · have e : ¬ ch T L i = irm (x1 / x2) 256 := fun z => q2 w0 (by rw [z]; exact ⟨Int32.lt_irrefl, Int32.lt_irrefl⟩)
          rw [List.singleton_append, mW, if_neg e, if_pos w0] at hq
          exact hq
        · rw [if_neg w0] at hq
          exact hq
    · rw [if_pos q] at el
      rw [e3]
      rw [show l = l2 from el] at hq hpos
      exact ih x3 l2 h2 hpos i w μ hi hw s hq
def pk (k : Nat) : Int32 := ([29547, 7694708, 6386547, 6383980, 27756, 6649972] : List Int32).getD k 0
theorem mo_word {k : Nat} {T : Nat → Int32} (hk : k < 6) (hL : L ≤ 60) {μ0 μ : Nat → Nat → Nat → Int32} (hT : μ0 24 0 = T) (hl : μ0 20 0 6 = nI L) (hi : i ≤ L) (hw : w ≤ 1) (s : Sg μ0 μ i w) (h : ∀ μ', Sg μ0 μ' (mWw T L (wdB.getD k []).tail i w).1 (mWw T L (wdB.getD k []).tail i w).2 → Q (.inl none) (rset m 9 μ') c n) : Wq g (d + 2) MX5_word c n 0 [some (pO 20 9 0), some (pI (pk k))] [] (rset m 9 μ) Q := by
  refine sgX5_word ?_
  have e : (wdB.getD k []).tail = (if irm (pk k / 65536) 256 = 0 then [] else [irm (pk k / 65536) 256]) ++ ((if irm (pk k / 256) 256 = 0 then [] else [irm (pk k / 256) 256]) ++ (if irm (pk k / 1) 256 = 0 then [] else [irm (pk k / 1) 256])) := by
    have : k = 0 ∨ k = 1 ∨ k = 2 ∨ k = 3 ∨ k = 4 ∨ k = 5 := by omega
    rcases this with rfl | rfl | rfl | rfl | rfl | rfl <;> decide
  have hp : ∀ a ∈ (wdB.getD k []).tail, (0 : Int32) < a := by
    have : k = 0 ∨ k = 1 ∨ k = 2 ∨ k = 3 ∨ k = 4 ∨ k = 5 := by omega
    rcases this with rfl | rfl | rfl | rfl | rfl | rfl <;> decide
  exact mo_word_3 hL hT hl 3 65536 _ (Or.inr (Or.inr (Or.inr ⟨rfl, rfl, e⟩))) hp i w μ hi hw s h
end M5
