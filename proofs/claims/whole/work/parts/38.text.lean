/-! THE TEXT: how it is read -/
def ch (T : Nat → Int32) (L i : Nat) : Int32 := if i < L then T i else 0
def dgI (T : Nat → Int32) (L i : Nat) : Int32 := if 48 ≤ ch T L i ∧ ch T L i ≤ 57 then ch T L i - 48 else -1
def tnum (T : Nat → Int32) (L : Nat) (hi : Int32) (i : Nat) : Int32 × Nat :=
  if dgI T L i = -1 ∨ ¬ dgI T L i ≤ hi then (-1, i) else
  if dgI T L i = 0 ∨ dgI T L (i + 1) = -1 ∨ ¬ 10 * dgI T L i + dgI T L (i + 1) ≤ hi then (dgI T L i, i + 1) else (10 * dgI T L i + dgI T L (i + 1), i + 2)
def mW (T : Nat → Int32) (L : Nat) : List Int32 → Nat → Bool × Nat
  | [], i => (true, i)
  | a :: l, i => if ch T L i = a then mW T L l (i + 1) else (false, i)
def kA (c : Int32) : Option Nat := fnd (fun k => decide (c = (wdB.getD k []).getD 0 0)) 6 0
/-- an order from i on: whether it is one, where reading ends, its kind and its numbers -/
def PO (T : Nat → Int32) (L i : Nat) : Bool × Nat × (Nat × Nat × Nat) :=
  match kA (ch T L i) with
  | none => (false, i, (0, 0, 0))
  | some k => match mW T L (wdB.getD k []) i with
    | (false, j) => (false, j, (0, 0, 0))
    | (true, j) => if k = 5 then (true, j, (5, 0, 0)) else
      let x := tnum T L (if k = 4 then 3 else 11) j
      if x.1 = -1 then (false, x.2, (0, 0, 0)) else
      if k ≠ 4 then (true, x.2, (k, ix x.1, 0)) else
      if ch T L x.2 = 64 then
        let y := tnum T L 9 (x.2 + 1)
        if y.1 = -1 then (false, y.2, (0, 0, 0)) else (true, y.2, (4, ix x.1, ix y.1))
      else (false, x.2, (0, 0, 0))
/-- all orders from i on, at most so many -/
def PR (T : Nat → Int32) (L : Nat) : Nat → Nat → Bool × Nat × List (Nat × Nat × Nat)
  | 0, i => (false, i, [])
  | f + 1, i => match PO T L i with
    | (false, j, _) => (false, j, [])
    | (true, j, o) => if L ≤ j then (true, j, [o]) else if ch T L j = 59 then ((PR T L f (j + 1)).1, (PR T L f (j + 1)).2.1, o :: (PR T L f (j + 1)).2.2) else (false, j, [o])
theorem tI_id {τ : Nat → Nat → Nat → Int32} {t j k : Nat} {x : Int32} (h : τ t j k = x) : tI τ t j k x = τ := by
  funext a b z
  rw [tI_g]
  split
  · rename_i q
    rw [q.1, q.2.1, q.2.2, h]
  · rfl
theorem tI_tI {τ : Nat → Nat → Nat → Int32} {t j k : Nat} {x y : Int32} : tI (tI τ t j k x) t j k y = tI τ t j k y := by
  funext a b z
  rw [tI_g, tI_g, tI_g]
  split <;> rfl
section TX
variable {T : Nat → Int32} {L : Nat}
theorem ch_lt {i : Nat} (h : i < L) : ch T L i = T i := if_pos h
theorem ch_ge {i : Nat} (h : L ≤ i) : ch T L i = 0 := if_neg (by omega)
theorem dg_cases (i : Nat) : dgI T L i = -1 ∨ (i < L ∧ ∃ v, v < 10 ∧ dgI T L i = nI v) := by
  unfold dgI
  by_cases h : 48 ≤ ch T L i ∧ ch T L i ≤ 57
  · rw [if_pos h]
    right
    have hi : i < L := by
      by_cases q : i < L
      · exact q
      · rw [ch_ge (by omega)] at h
        exact absurd h.1 (by decide)
    refine ⟨hi, (ch T L i).toInt.toNat - 48, ?_, ?_⟩
    · have h1 := Int32.le_iff_toInt_le.mp h.1
      have h2 := Int32.le_iff_toInt_le.mp h.2
      rw [show (48 : Int32).toInt = 48 by decide] at h1
      rw [show (57 : Int32).toInt = 57 by decide] at h2
      omega
    · have h1 := Int32.le_iff_toInt_le.mp h.1
      have h2 := Int32.le_iff_toInt_le.mp h.2
      rw [show (48 : Int32).toInt = 48 by decide] at h1
      rw [show (57 : Int32).toInt = 57 by decide] at h2
      have h3 : ¬ ch T L i < 0 := fun z => by
        have := Int32.lt_iff_toInt_lt.mp z
        rw [show (0 : Int32).toInt = 0 by decide] at this
        omega
      obtain ⟨j, hj, e⟩ := nI_of h3
      rw [e, nI_toInt (by omega)] at h1 h2 ⊢
      rw [show (48 : Int32) = nI 48 from rfl, pk_sub (by omega)]
      congr 1
  · rw [if_neg h]
    exact Or.inl rfl
theorem dg_eq {i : Nat} (hL : L ≤ 60) (hi : i ≤ L) : (if nI L ≤ nI i then (-1 : Int32) else (if T i < 48 then -1 else (if T i ≤ 57 then T i - 48 else -1))) = dgI T L i := by
  unfold dgI
  by_cases q : i < L
  · rw [if_neg (nI_ge q (by omega)), ch_lt q]
    by_cases h1 : T i < 48
    · rw [if_pos h1, if_neg (fun z => ?_)]
      have a := Int32.lt_iff_toInt_lt.mp h1
      have b := Int32.le_iff_toInt_le.mp z.1
      omega
    · have h1' : 48 ≤ T i := by
        rw [Int32.le_iff_toInt_le]
        rw [Int32.lt_iff_toInt_lt] at h1
        omega
      rw [if_neg h1]
      by_cases h2 : T i ≤ 57
      · rw [if_pos h2, if_pos ⟨h1', h2⟩]
      · rw [if_neg h2, if_neg (fun z => h2 z.2)]
  · rw [if_pos (nI_le (by omega) (by omega)), ch_ge (by omega), if_neg (by decide)]
theorem tnum_le {hi : Int32} {i : Nat} (h : i ≤ L) : i ≤ (tnum T L hi i).2 ∧ (tnum T L hi i).2 ≤ L := by
  unfold tnum
  by_cases a : dgI T L i = -1 ∨ ¬ dgI T L i ≤ hi
  · rw [if_pos a]; exact ⟨Nat.le_refl _, h⟩
  · have hl : i < L := by
      rcases dg_cases (T := T) (L := L) i with z | z
      · exact absurd (Or.inl z) a
      · exact z.1
    rw [if_neg a]
    by_cases b : dgI T L i = 0 ∨ dgI T L (i + 1) = -1 ∨ ¬ 10 * dgI T L i + dgI T L (i + 1) ≤ hi
    · rw [if_pos b]; exact ⟨by simp, by simp; omega⟩
    · rw [if_neg b]
      have hl2 : i + 1 < L := by
        rcases dg_cases (T := T) (L := L) (i + 1) with z | z
        · exact absurd (Or.inr (Or.inl z)) b
        · exact z.1
      exact ⟨by simp, by simp; omega⟩
theorem mW_le : ∀ {l : List Int32} {i : Nat}, (∀ a ∈ l, ¬ a = 0) → i ≤ L → i ≤ (mW T L l i).2 ∧ (mW T L l i).2 ≤ L
  | [], i, _, h => ⟨Nat.le_refl _, h⟩
  | a :: l, i, ha, h => by
    rw [mW]
    by_cases q : ch T L i = a
    · rw [if_pos q]
      have hl : i < L := by
        by_cases z : i < L
        · exact z
        · rw [ch_ge (by omega)] at q
          exact absurd q.symm (ha a List.mem_cons_self)
      have := mW_le (l := l) (i := i + 1) (fun b hb => ha b (List.mem_cons_of_mem _ hb)) hl
      exact ⟨by omega, this.2⟩
    · rw [if_neg q]; exact ⟨Nat.le_refl _, h⟩
theorem wd_ne : ∀ k, k < 6 → ∀ a ∈ wdB.getD k [], ¬ a = 0 := by decide +kernel
theorem kA_lt {x : Int32} {k : Nat} (h : kA x = some k) : k < 6 := by
  obtain ⟨_, a, _⟩ := fnd_some h
  omega
theorem kA_eq {x : Int32} {k : Nat} (h : kA x = some k) : x = (wdB.getD k []).getD 0 0 := by
  obtain ⟨_, _, a, _⟩ := fnd_some h
  simpa using a
end TX
section O5
variable {g : GG} {d : Nat} {c n : Nat} {m : PM} {Q : Ou → PM → Nat → Nat → Prop} {L i : Nat}
theorem co_takeNumber {hi : Int32} (hl : m.1 8 12 0 1 = nI L) (hL : L ≤ 60) (ha : m.1 8 12 0 2 = nI i) (hiL : i ≤ L) (h : Q (.inl (some (pI (tnum (m.1 8 13 0) L hi i).1))) (rset m 8 (tI (m.1 8) 12 0 2 (nI (tnum (m.1 8 13 0) L hi i).2))) c n) : Wq g (d + 1) MX2_takeNumber c n 0 [some (pO 12 8 0), some (pI hi)] [] m Q := by
  refine sgX2_takeNumber ?_
  simp (disch := omega) only [ixn, nI_1, nI_add, pk_mul, nI_p0, of0, of1, of2, of3, of4, of5, of6, of7, of8, dv16, dv4, rm4, at_n, pl_n, ce_n, oe_n, oe0, oe1, oe2, ix_0, ix_1, ix_2, ix_3, ix_4, ix_5, ix_6, ix_7, ix_8, setI_eq, rset_rset, rset_s, rset_2, tI_s, tI_t, tI_j, tI_k, hl, ha]
  unfold tnum at h
  have e1 := dg_eq (T := m.1 8 13 0) hL hiL
  rw [e1]
  refine ⟨fun q => ?_, fun q => ?_, fun q => ⟨fun q2 => ?_, fun q2 => ?_⟩⟩
  · have hi2 : i < L := by
      by_cases z : i < L
      · exact z
      · exact absurd (nI_le (by omega) (by omega)) q
    have : vp_in (nI i) 60 := vp_in_nI (by omega) (by decide)
    exact ⟨this, fun _ => ⟨this, fun _ => ⟨this, trivial⟩⟩⟩
  · rw [if_pos (Or.inl q), tI_id ha, rset_id] at h
    exact h
  · have hi2 : i < L := by
      rcases dg_cases (T := m.1 8 13 0) (L := L) i with z | z
      · exact absurd z q
      · exact z.1
    have e2 := dg_eq (T := m.1 8 13 0) hL (show i + 1 ≤ L by omega)
    rw [e2]
    rw [if_neg (by rintro (z | z); exact q z; exact z q2)] at h
    refine ⟨fun q3 => ?_, fun q3 => ?_, fun q3 => ⟨fun q4 => ?_, fun q4 => ⟨fun q5 => ?_, fun q5 => ?_⟩⟩⟩
    · have hi3 : i + 1 < L := by
        by_cases z : i + 1 < L
        · exact z
        · exact absurd (nI_le (by omega) (by omega)) q3
      have : vp_in (nI (i + 1)) 60 := vp_in_nI (by omega) (by decide)
      exact ⟨this, fun _ => ⟨this, fun _ => ⟨this, trivial⟩⟩⟩
    · rw [if_pos (Or.inl q3)] at h
      exact h
    · rw [if_pos (Or.inr (Or.inl q4))] at h
      exact h
    · rw [if_neg (by rintro (z | z | z); exact q3 z; exact q4 z; exact z q5)] at h
      rw [tI_tI]
      exact h
    · rw [if_pos (Or.inr (Or.inr q5))] at h
      exact h
  · rw [if_pos (Or.inr q2), tI_id ha, rset_id] at h
    exact h
theorem co_kindAhead (hl : m.1 8 12 0 1 = nI L) (hL : L ≤ 60) (ha : m.1 8 12 0 2 = nI i) (hiL : i ≤ L) (h : Q (.inl (some (pI (oI (kA (ch (m.1 8 13 0) L i)))))) m c n) : Wq g (d + 4) MX2_kindAhead c n 0 [some (pO 12 8 0)] [] m Q := by
  refine sgX2_kindAhead ?_
  have hw : ∀ k, k < 6 → (if nI k = 0 then 0 else (if nI k = 1 then 1 else (if nI k = 2 then 2 else (if nI k = 3 then 3 else (if nI k = 4 then 4 else 5))))) = k := by decide
  have hc : ∀ k, k < 6 → (Int32.toUInt32 (((wdB.getD k []).getD (ix (0 : Int32)) 0) &&& 255) % 65536).toInt32 = (wdB.getD k []).getD 0 0 := by decide +kernel
  have hz : ∀ k, k < 6 → ¬ (0 : Int32) = (wdB.getD k []).getD 0 0 := by decide +kernel
  have h0 : ∀ k, k < 6 → (((¬ (0 : Int32) < 0 ∧ ((0 : Int32) < (nI (wdL.getD k 0)) ∧ (vp_in (0 : Int32) (wdL.getD k 0) ∧ True))) ∧ True)) := by
    intro k hk
    refine ⟨⟨by decide, ?_, ?_, trivial⟩, trivial⟩
    · revert k; decide +kernel
    · have : 0 < wdL.getD k 0 := by revert k; decide +kernel
      exact vp_in_nI (n := 0) this (by revert k; decide +kernel)
  have h5 : ∀ k, k < 6 → ¬ (5 : Int32) < nI k := by decide
  refine Wq.up (S := Unit) 6 (fun k _ => [some (pO 12 8 0), some (pI (nI k))]) (fun _ _ => m) (fun k _ => Q (.inl (some (pI (oI (fnd (fun k => decide (ch (m.1 8 13 0) L i = (wdB.getD k []).getD 0 0)) (6 - k) k))))) m c n) (fun _ hI => ?_) (fun k _ hk hI ih => ?_) 0 () (by omega) h
  · exact sgX2_kindAhead_2 ⟨fun _ => hI, fun q => absurd (by decide) q⟩
  · rw [show 6 - k = (6 - (k + 1)) + 1 by omega, fnd] at hI
    have no : ¬ ch (m.1 8 13 0) L i = (wdB.getD k []).getD 0 0 → Wq g (d + 4) MX2_kindAhead c n 2 [some (pO 12 8 0), some (pI (nI k + 1))] [] m Q := fun hc => by
      rw [if_neg (by simpa using hc)] at hI
      rw [nI_1]
      exact ih () hI
    refine sgX2_kindAhead_2 ⟨fun q => absurd q (h5 k hk), fun _ => ⟨fun q => no ?_, fun q => ?_⟩⟩
    · rw [hl, ha, nI_leI (by omega) (by omega)] at q
      rw [ch_ge q]
      exact hz k hk
    · rw [hl, ha, nI_leI (by omega) (by omega)] at q
      rw [hw k hk, ha, ixn (by omega), hc k hk]
      refine ⟨vp_in_nI (by omega) (by decide), h0 k hk, fun q2 => no ?_, fun q2 => ?_⟩
      · rw [ch_lt (by omega)]
        exact q2
      · rw [if_pos (by rw [ch_lt (by omega)]; simpa using q2)] at hI
        exact hI
theorem co_takeWord {j : Nat} (hj : j < 6) (hl : m.1 8 12 0 1 = nI L) (hL : L ≤ 60) (ha : m.1 8 12 0 2 = nI i) (hiL : i ≤ L) (h : Q (.inl (some (pI (if (mW (m.1 8 13 0) L (wdB.getD j []) i).1 then 1 else 0)))) (rset m 8 (tI (m.1 8) 12 0 2 (nI (mW (m.1 8 13 0) L (wdB.getD j []) i).2))) c n) : Wq g (d + 4) MX2_takeWord c n 0 [some (pO 12 8 0), some (pO 44 10 j)] [] m Q := by
  refine sgX2_takeWord ?_
  have hlen : ∀ j, j < 6 → nI (wdL.getD j 0) >>> (0 &&& 31) = nI (wdB.getD j []).length ∧ wdL.getD j 0 = (wdB.getD j []).length ∧ (wdB.getD j []).length < 5 := by decide +kernel
  obtain ⟨hl1, hl2, hl3⟩ := hlen j hj
  have hch : ∀ j, j < 6 → ∀ k, k < (wdB.getD j []).length → (Int32.toUInt32 (((wdB.getD j []).getD k 0) &&& 255) % 65536).toInt32 = (wdB.getD j []).getD k 0 ∧ ¬ (wdB.getD j []).getD k 0 = 0 := by decide +kernel
  have hch := hch j hj
  generalize hwe : wdB.getD j [] = w at *
  have key := Wq.up (g := g) (d := d + 4) (M := MX2_takeWord) (c := c) (n := n) (pc := 2) (Q := Q) (S := Unit) w.length (fun k _ => [some (pO 12 8 0), some (pO 44 10 j), some (pI (nI k))]) (fun k _ => rset m 8 (tI (m.1 8) 12 0 2 (nI (i + k)))) (fun k _ => i + k ≤ L ∧ Q (.inl (some (pI (if (mW (m.1 8 13 0) L (w.drop k) (i + k)).1 then 1 else 0)))) (rset m 8 (tI (m.1 8) 12 0 2 (nI (mW (m.1 8 13 0) L (w.drop k) (i + k)).2))) c n) (fun _ hI => ?_) (fun k _ hk hI ih => ?_) 0 () (by omega) ⟨by omega, by simpa using h⟩
  · rw [show i + 0 = i from rfl, tI_id ha, rset_id] at key
    exact key
  · refine sgX2_takeWord_2 ⟨fun _ => ?_, fun q => absurd (by rw [hl1]; exact nI_le (Nat.le_refl _) (by omega)) q⟩
    have := hI.2
    rw [List.drop_length] at this
    exact this
  · obtain ⟨hk2, hI⟩ := hI
    rw [List.drop_eq_getElem_cons hk, mW] at hI
    have hg : w.getD k 0 = w[k] := by simp [List.getD, hk]
    obtain ⟨hc1, hc2⟩ := hch k hk
    rw [hg] at hc1 hc2
    refine sgX2_takeWord_2 ⟨fun q => absurd (by rw [← hl1]; exact q) (nI_ge hk (by omega)), fun _ => ?_⟩
    simp (disch := omega) only [ixn, nI_1, nI_add, pk_mul, nI_p0, of0, of1, of2, of3, of4, of5, of6, of7, of8, dv16, dv4, rm4, at_n, pl_n, ce_n, oe_n, oe0, oe1, oe2, ix_0, ix_1, ix_2, ix_3, ix_4, ix_5, ix_6, ix_7, ix_8, setI_eq, rset_rset, rset_s, rset_2, tI_s, tI_t, tI_j, tI_k, hl]
    rw [hwe, hg, hc1]
    refine ⟨⟨⟨nI_pos (by omega), by rw [hl2]; exact nI_lt hk (by omega), by rw [hl2]; exact vp_in_nI hk (by omega), trivial⟩, trivial⟩, fun q => ?_, fun q => ⟨?_, fun q2 => ?_, fun q2 => ?_⟩⟩
    · rw [nI_leI (by omega) (by omega)] at q
      rw [ch_ge q, if_neg (show ¬ (0 : Int32) = w[k] from fun z => hc2 z.symm)] at hI
      exact hI
    · rw [nI_leI (by omega) (by omega)] at q
      exact vp_in_nI (by omega) (by decide)
    · rw [nI_leI (by omega) (by omega)] at q
      rw [ch_lt (by omega), if_pos q2] at hI
      rw [tI_tI]
      exact ih () ⟨by omega, hI⟩
    · rw [nI_leI (by omega) (by omega)] at q
      rw [ch_lt (by omega), if_neg q2] at hI
      exact hI
end O5
