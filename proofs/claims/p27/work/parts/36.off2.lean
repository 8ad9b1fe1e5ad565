/-! THE OFFICE, what writes; and what tells a property -/
def cTell : Option Nat → Nat → Int32
  | none, _ => -1
  | some i, w => if w = 0 then nI (i / 16) else if w = 1 then nI (i / 4 % 4) else nI (i % 4)
def cPup (P : Nat) (τ : Nat → Nat → Nat → Int32) (p : Nat) : Nat → Int32
  | 0 => τ 4 p 0
  | 1 => τ 4 p 1
  | 2 => τ 4 p 2
  | 3 => τ 4 p 3
  | 4 => τ 4 p 4
  | 5 => cTell (cCell τ (nI p)) 0
  | 6 => cTell (cCell τ (nI p)) 1
  | 7 => cTell (cCell τ (nI p)) 2
  | 8 => τ 4 p 5
  | 9 => if τ 4 p 0 = 1 then nI (cPlace τ P p) else -1
  | _ => τ 4 p 7
def cKind (τ : Nat → Nat → Nat → Int32) (e : Nat) (x : Int32) : Int32 := nI (cN (fun k => decide (τ 2 0 (4 * k + e) = x)) 40)
def cExa (τ : Nat → Nat → Nat → Int32) (e : Nat) : Nat → Int32
  | 0 => sI (τ 6 e) 4
  | 1 => τ 5 e 1
  | 2 => cKind τ e (-1)
  | 3 => cKind τ e (-2)
  | 4 => τ 5 e 2
  | w + 5 => τ 6 e w
def cWho (P : Nat) (τ : Nat → Nat → Nat → Int32) (x : Int32) : Int32 := nI (cN (fun p => decide (τ 4 p 0 = x)) P)
def cNum (E P : Nat) (τ : Nat → Nat → Nat → Int32) : Nat → Int32
  | 0 => τ 0 0 0
  | 1 => τ 0 0 1
  | 2 => τ 0 0 2
  | 3 => cWho P τ 0
  | 4 => cWho P τ 1
  | 5 => cWho P τ 2
  | 6 => cWho P τ 3
  | 7 => sI (fun e => sI (τ 6 e) 4) E
  | 8 => sI (fun e => τ 5 e 1) E
  | 9 => sI (fun p => τ 4 p 5) P
  | 10 => τ 0 0 4
  | 11 => sI (fun p => τ 4 p 7) P
  | 12 => sI (fun e => cKind τ e (-1)) E
  | _ => sI (fun i => if isPu P (τ 2 0 i) then nI (i / 16) else 0) 160
theorem tell_eq {o : Option Nat} (ho : ∀ i, o = some i → i < 160) {x : Int32} {w : Nat} (hx : x = nI w) (hw : w < 3) : ((if ¬ oI o = (-1) then (if x = 0 then (oI o / 16) else (if x = 1 then (irm (oI o / 4) 4) else (irm (oI o) 4))) else (-1)) : Int32) = cTell o w := by
  cases o with
  | none => rw [if_neg (by simp [oI])]; rfl
  | some i =>
    have hi := ho i rfl
    rw [if_pos (show ¬ oI (some i) = -1 from nI_m1 (by omega))]
    subst hx
    show (if nI w = 0 then nI i / 16 else if nI w = 1 then irm (nI i / 4) 4 else irm (nI i) 4) = _
    rw [dv16 (by omega), dv4 (by omega), rm4 (by omega), rm4 (by omega)]
    match w, hw with
    | 0, _ => rfl
    | 1, _ => rfl
    | 2, _ => rfl
theorem cCell_lt {τ : Nat → Nat → Nat → Int32} {x : Int32} {i : Nat} (h : cCell τ x = some i) : i < 160 := (cCell_some h).1
theorem setR_eq {m : PM} {t r j : Nat} {f : Nat → Int32} : setR m t r j f = rset m r (tset (m.1 r) t j f) := rfl
theorem ts_s {τ : Nat → Nat → Nat → Int32} {t j : Nat} {f : Nat → Int32} : tset τ t j f t j = f := by simp [tset]
theorem ts_t {τ : Nat → Nat → Nat → Int32} {t j t' : Nat} {f : Nat → Int32} (h : t' ≠ t) : tset τ t j f t' = τ t' := by funext j'; simp [tset, h]
theorem ts_j {τ : Nat → Nat → Nat → Int32} {t j j' : Nat} {f : Nat → Int32} (h : j' ≠ j) : tset τ t j f t j' = τ t j' := by simp [tset, h]
section O3
variable {g : GG} {d : Nat} {c n : Nat} {m : PM} {Q : Ou → PM → Nat → Nat → Prop} {r : Nat} {K E P : Nat}
theorem co_mayBeTested {x1 : Int32} (h : Q (.inl (some (pI (if cDay (cCell (m.1 r) x1) = 0 then 1 else 0)))) m c n) : Wq g (d + 2) MX1_mayBeTested c n 0 [some (pO 0 r 0), some (pI x1)] [] m Q := by
  refine sgX1_mayBeTested (co_cellOf ⟨rfl, rfl, ?_⟩)
  have e := tell_eq (o := cCell (m.1 r) x1) (fun i hi => cCell_lt hi) (x := 0) (w := 0) rfl (by decide)
  have e2 : cTell (cCell (m.1 r) x1) 0 = cDay (cCell (m.1 r) x1) := by cases cCell (m.1 r) x1 <;> rfl
  rw [e2] at e
  show (¬ (if ¬ oI (cCell (m.1 r) x1) = -1 then if (0 : Int32) = 0 then oI (cCell (m.1 r) x1) / 16 else if (0 : Int32) = 1 then irm (oI (cCell (m.1 r) x1) / 4) 4 else irm (oI (cCell (m.1 r) x1)) 4 else -1) = 0 → Q (Sum.inl (some (pI 0))) m c n) ∧ ((if ¬ oI (cCell (m.1 r) x1) = -1 then if (0 : Int32) = 0 then oI (cCell (m.1 r) x1) / 16 else if (0 : Int32) = 1 then irm (oI (cCell (m.1 r) x1) / 4) 4 else irm (oI (cCell (m.1 r) x1)) 4 else -1) = 0 → Q (Sum.inl (some (pI 1))) m c n)
  rw [e]
  refine ⟨fun q => ?_, fun q => ?_⟩
  · rw [if_neg q] at h; exact h
  · rw [if_pos q] at h; exact h
theorem co_pupilProperty {p w : Nat} (hP : m.1 r 0 0 2 = nI P) (hP12 : P ≤ 12) (hp : p < 12) (hw : w < 11) (h : Q (.inl (some (pI (cPup P (m.1 r) p w)))) m c n) : Wq g (d + 2) MX1_pupilProperty c n 0 [some (pO 0 r 0), some (pI (nI p)), some (pI (nI w))] [] m Q := by
  have tl : ∀ v, v < 3 → w = v + 5 → Q (.inl (some (pI (cTell (cCell (m.1 r) (nI p)) v)))) m c n → Wp g (d + 1) MX1_cellOf 0 [some (pO 0 r 0), some (pI (nI p))] [] m (cI fun r7 m8 => Q (.inl (some (pI ((if ¬ r7 = (-1) then (if (nI w - 5) = 0 then (r7 / 16) else (if (nI w - 5) = 1 then (irm (r7 / 4) 4) else (irm r7 4))) else (-1)) : Int32)))) m8 c n) := fun v hv e hq => by
    refine co_cellOf ⟨rfl, rfl, ?_⟩
    have e := tell_eq (o := cCell (m.1 r) (nI p)) (fun i hi => cCell_lt hi) (x := nI w - 5) (w := v) (by subst e; rw [show (5 : Int32) = nI 5 from rfl, pk_sub (by omega)]; rfl) hv
    exact (congrArg (fun z => Q (.inl (some (pI z))) m c n) e).mpr hq
  refine sgX1_pupilProperty ⟨vp_in_nI hp (by decide), fun q => ?_, fun _ => ⟨fun q => ?_, fun _ => ⟨fun q => ?_, fun _ => ⟨fun q => ?_, fun _ => ⟨fun q => ?_, fun _ => ⟨fun q => ?_, fun _ => ⟨fun q => ?_, fun _ => ⟨fun q => ?_, fun _ => ⟨fun q => ?_, fun _ => ⟨fun q => ?_, fun q9 => ⟨fun q => ?_, fun q => ?_⟩⟩⟩⟩⟩⟩⟩⟩⟩⟩⟩
  · have := nI_i (b := 0) (by omega) (by decide) q; subst this; rw [ixn (by omega)]; exact h
  · have := nI_i (b := 1) (by omega) (by decide) q; subst this; rw [ixn (by omega)]; exact h
  · have := nI_i (b := 2) (by omega) (by decide) q; subst this; rw [ixn (by omega)]; exact h
  · have := nI_i (b := 3) (by omega) (by decide) q; subst this; rw [ixn (by omega)]; exact h
  · have := nI_i (b := 4) (by omega) (by decide) q; subst this; rw [ixn (by omega)]; exact h
  · have := nI_i (b := 5) (by omega) (by decide) q; subst this; exact tl 0 (by decide) rfl h
  · have := nI_i (b := 6) (by omega) (by decide) q; subst this; exact tl 1 (by decide) rfl h
  · have := nI_i (b := 7) (by omega) (by decide) q; subst this; exact tl 2 (by decide) rfl h
  · have := nI_i (b := 8) (by omega) (by decide) q; subst this; rw [ixn (by omega)]; exact h
  · have := nI_i (b := 9) (by omega) (by decide) q; subst this; exact co_placeInQueue hP hP12 hp ⟨rfl, rfl, h⟩
  · have := nI_i (b := 10) (by omega) (by decide) q; subst this; rw [ixn (by omega)]; exact h
  · exfalso
    have e : ∀ b, b < 11 → w ≠ b := by
      intro b hb e
      subst e
      match w, hb with
      | 0, _ => exact absurd rfl ‹¬ nI 0 = 0›
      | 1, _ => exact absurd rfl ‹¬ nI 1 = 1›
      | 2, _ => exact absurd rfl ‹¬ nI 2 = 2›
      | 3, _ => exact absurd rfl ‹¬ nI 3 = 3›
      | 4, _ => exact absurd rfl ‹¬ nI 4 = 4›
      | 5, _ => exact absurd rfl ‹¬ nI 5 = 5›
      | 6, _ => exact absurd rfl ‹¬ nI 6 = 6›
      | 7, _ => exact absurd rfl ‹¬ nI 7 = 7›
      | 8, _ => exact absurd rfl ‹¬ nI 8 = 8›
      | 9, _ => exact absurd rfl ‹¬ nI 9 = 9›
      | 10, _ => exact absurd rfl ‹¬ nI 10 = 10›
    exact e w hw rfl
theorem co_examinerProperty {e w : Nat} (he : e < 4) (hw : w < 9) (h : Q (.inl (some (pI (cExa (m.1 r) e w)))) m c n) : Wq g (d + 1) MX1_examinerProperty c n 0 [some (pO 0 r 0), some (pI (nI e)), some (pI (nI w))] [] m Q := by
  refine sgX1_examinerProperty ⟨vp_in_nI he (by decide), fun q => ?_, fun q0 => ⟨fun q => ?_, fun q1 => ⟨fun q => ?_, fun q2 => ⟨fun q => ?_, fun q3 => ⟨fun q => ?_, fun q4 => ?_⟩⟩⟩⟩⟩
  · have := nI_i (b := 0) (by omega) (by decide) q; subst this; rw [ixn (by omega)]; exact co_tests ⟨rfl, rfl, h⟩
  · have := nI_i (b := 1) (by omega) (by decide) q; subst this; rw [ixn (by omega)]; exact h
  · have := nI_i (b := 2) (by omega) (by decide) q; subst this; exact co_cellsOfExaminer he ⟨rfl, rfl, h⟩
  · have := nI_i (b := 3) (by omega) (by decide) q; subst this; exact co_cellsOfExaminer he ⟨rfl, rfl, h⟩
  · have := nI_i (b := 4) (by omega) (by decide) q; subst this; rw [ixn (by omega)]; exact h
  · match w, hw with
    | 0, _ => exact absurd rfl q0
    | 1, _ => exact absurd rfl q1
    | 2, _ => exact absurd rfl q2
    | 3, _ => exact absurd rfl q3
    | 4, _ => exact absurd rfl q4
    | v + 5, hv =>
      rw [show (5 : Int32) = nI 5 from rfl, pk_sub (by omega), show v + 5 - 5 = v by omega, ixn (by omega), ixn (by omega)]
      exact ⟨vp_in_nI (by omega) (by decide), h⟩
theorem co_number {w : Nat} (hE : m.1 r 0 0 1 = nI E) (hE4 : E ≤ 4) (hP : m.1 r 0 0 2 = nI P) (hP12 : P ≤ 12) (hw : w < 14) (h : Q (.inl (some (pI (cNum E P (m.1 r) w)))) m c n) : Wq g (d + 2) MX1_number c n 0 [some (pO 0 r 0), some (pI (nI w))] [] m Q := by
  refine sgX1_number ⟨fun q => ?_, fun q0 => ⟨fun q => ?_, fun q1 => ⟨fun q => ?_, fun q2 => ⟨fun q => ?_, fun q3 => ⟨fun q => ?_, fun q4 => ⟨fun q => ?_, fun q5 => ⟨fun q => ?_, fun q6 => ⟨fun q => ?_, fun q7 => ⟨fun q => ?_, fun q8 => ⟨fun q => ?_, fun q9 => ⟨fun q => ?_, fun q10 => ⟨fun q => ?_, fun q11 => ⟨fun q => ?_, fun q12 => ⟨fun q => ?_, fun q13 => ?_⟩⟩⟩⟩⟩⟩⟩⟩⟩⟩⟩⟩⟩⟩
  · have := nI_i (b := 0) (by omega) (by decide) q; subst this; exact h
  · have := nI_i (b := 1) (by omega) (by decide) q; subst this; exact h
  · have := nI_i (b := 2) (by omega) (by decide) q; subst this; exact h
  · have := nI_i (b := 3) (by omega) (by decide) q; subst this; exact co_pupilsWho hP hP12 ⟨rfl, rfl, h⟩
  · have := nI_i (b := 4) (by omega) (by decide) q; subst this; exact co_pupilsWho hP hP12 ⟨rfl, rfl, h⟩
  · have := nI_i (b := 5) (by omega) (by decide) q; subst this; exact co_pupilsWho hP hP12 ⟨rfl, rfl, h⟩
  · have := nI_i (b := 6) (by omega) (by decide) q; subst this; exact co_pupilsWho hP hP12 ⟨rfl, rfl, h⟩
  · have := nI_i (b := 7) (by omega) (by decide) q; subst this; exact co_testsSoFar hE hE4 ⟨rfl, rfl, h⟩
  · have := nI_i (b := 8) (by omega) (by decide) q; subst this; exact co_passedSoFar hE hE4 ⟨rfl, rfl, h⟩
  · have := nI_i (b := 9) (by omega) (by decide) q; subst this; exact co_movedSoFar hP hP12 ⟨rfl, rfl, h⟩
  · have := nI_i (b := 10) (by omega) (by decide) q; subst this; exact h
  · have := nI_i (b := 11) (by omega) (by decide) q; subst this; exact co_moneyTaken hP hP12 ⟨rfl, rfl, h⟩
  · have := nI_i (b := 12) (by omega) (by decide) q; subst this; exact co_freeSlots hE hE4 ⟨rfl, rfl, h⟩
  · have := nI_i (b := 13) (by omega) (by decide) q; subst this; exact co_daysToAllSlots hP ⟨rfl, rfl, h⟩
  · exfalso
    match w, hw with
    | 0, _ => exact absurd rfl q0
    | 1, _ => exact absurd rfl q1
    | 2, _ => exact absurd rfl q2
    | 3, _ => exact absurd rfl q3
    | 4, _ => exact absurd rfl q4
    | 5, _ => exact absurd rfl q5
    | 6, _ => exact absurd rfl q6
    | 7, _ => exact absurd rfl q7
    | 8, _ => exact absurd rfl q8
    | 9, _ => exact absurd rfl q9
    | 10, _ => exact absurd rfl q10
    | 11, _ => exact absurd rfl q11
    | 12, _ => exact absurd rfl q12
    | 13, _ => exact absurd rfl q13
theorem co_letAsk {p : Nat} (hI : Iv K E P (m.1 r)) (hK : K < 2 ^ 31) (hp : p < P) (hs : m.1 r 4 p 0 = 0) (h : ∀ τ', Ap τ' (give P (fAsk0 (m.1 r) p)) → Q (.inl (some (pI (cDay (cCell τ' (nI p)))))) (rset m r τ') c n) : Wq g (d + 3) MX1_letAsk c n 0 [some (pO 0 r 0), some (pI (nI p))] [] m Q := by
  have hP := hI.P12
  refine sgX1_letAsk ⟨vp_in_nI (by omega) (by decide), ?_⟩
  simp (disch := omega) only [ixn, nI_1, nI_add, pk_mul, nI_p0, of0, of1, of2, of3, of4, of5, of6, of7, of8, dv16, dv4, rm4, at_n, pl_n, ce_n, oe_n, oe0, oe1, oe2, ix_0, ix_1, ix_2, ix_3, ix_4, ix_5, ix_6, ix_7, ix_8, setI_eq, rset_rset, rset_s, rset_2, tI_s, tI_t, tI_j, tI_k]
  show Wp g (d + 2) MX1_giveSlotsOut 0 [some (pO 0 r 0)] [] (rset m r (fAsk0 (m.1 r) p)) _
  refine co_giveSlotsOut (K := K + 1) (E := E) (P := P) (by rw [rset_s]; exact fAsk0_Iv hI hp hK hs) fun τ' a => ⟨rfl, rfl, ?_⟩
  rw [rset_rset]
  rw [rset_s] at a
  refine co_cellOf ⟨rfl, rfl, ?_⟩
  rw [rset_s]
  have e := tell_eq (o := cCell τ' (nI p)) (fun i hi => cCell_lt hi) (x := 0) (w := 0) rfl (by decide)
  have e2 : cTell (cCell τ' (nI p)) 0 = cDay (cCell τ' (nI p)) := by cases cCell τ' (nI p) <;> rfl
  exact (congrArg (fun z => Q (.inl (some (pI z))) (rset m r τ') c n) (e.trans e2)).mpr (h τ' a)
theorem co_letQuit {p : Nat} (hI : Iv K E P (m.1 r)) (hp : p < P) (h : ∀ τ', Ap τ' (give P (fQuit0 (m.1 r) p)) → Q (.inl (some (pI (cBack (m.1 r) p)))) (rset m r τ') c n) : Wq g (d + 3) MX1_letQuit c n 0 [some (pO 0 r 0), some (pI (nI p))] [] m Q := by
  have hP := hI.P12
  refine sgX1_letQuit ⟨vp_in_nI (by omega) (by decide), co_cellOf ⟨rfl, rfl, ?_⟩⟩
  have hq := fQuit0_Iv hI hp
  have key : ∀ x τ1, fQuit0 (m.1 r) p = τ1 → cBack (m.1 r) p = x → Wp g (d + 2) MX1_giveSlotsOut 0 [some (pO 0 r 0)] [] (rset m r τ1) (cV fun m5 => Q (.inl (some (pI x))) m5 c n) := fun x τ1 e1 e2 => by
    subst e1 e2
    refine co_giveSlotsOut (K := K) (E := E) (P := P) (by rw [rset_s]; exact hq) fun τ' a => ⟨rfl, rfl, ?_⟩
    rw [rset_rset]
    rw [rset_s] at a
    exact h τ' a
  clear h hq
  dsimp only [cI]
  unfold fQuit0 cBack cCell at key
  cases e : fnd (fun i => decide (m.1 r 2 0 i = nI p)) 160 0 with
  | none =>
    rw [e] at key
    refine ⟨fun _ => ?_, fun q => absurd rfl q⟩
    simp (disch := omega) only [ixn, nI_1, nI_add, pk_mul, nI_p0, of0, of1, of2, of3, of4, of5, of6, of7, of8, dv16, dv4, rm4, at_n, pl_n, ce_n, oe_n, oe0, oe1, oe2, ix_0, ix_1, ix_2, ix_3, ix_4, ix_5, ix_6, ix_7, ix_8, setI_eq, rset_rset, rset_s, rset_2, tI_s, tI_t, tI_j, tI_k]
    exact key _ _ rfl rfl
  | some i =>
    rw [e] at key
    have hi : i < 160 := cCell_lt e
    have hi2 : i < 2 ^ 31 := Nat.lt_trans hi (by decide)
    simp only [oI]
    refine ⟨fun q => absurd q (nI_m1 hi2), fun _ => ⟨vp_in_nI hi (by decide), ?_⟩⟩
    simp (disch := omega) only [ixn, nI_1, nI_add, pk_mul, nI_p0, of0, of1, of2, of3, of4, of5, of6, of7, of8, dv16, dv4, rm4, at_n, pl_n, ce_n, oe_n, oe0, oe1, oe2, ix_0, ix_1, ix_2, ix_3, ix_4, ix_5, ix_6, ix_7, ix_8, setI_eq, rset_rset, rset_s, rset_2, tI_s, tI_t, tI_j, tI_k]
    refine ⟨fun q => ?_, fun q => ?_⟩
    · refine key _ _ ?_ ?_
      · simp only [if_pos q]
      · simp only [if_pos q]
    · refine key _ _ ?_ ?_
      · simp only [if_neg q]
      · simp only [if_neg q]
theorem co_freeSlotsOf {e D : Nat} (he : e < 4) (hD : D < 10) (h : Q (.inl none) (rset m r (tset (m.1 r) 2 0 (fun k => if k / 16 = D ∧ k % 4 = e then -1 else m.1 r 2 0 k))) c n) : Wq g (d + 1) MX1_freeSlotsOf c n 0 [some (pO 0 r 0), some (pI (nI e)), some (pI (nI D))] [] m Q := by
  refine sgX1_freeSlotsOf ?_
  have key := Wq.up (g := g) (d := d + 1) (M := MX1_freeSlotsOf) (c := c) (n := n) (pc := 2) (Q := Q) (S := Unit) 4 (fun k _ => [some (pO 0 r 0), some (pI (nI e)), some (pI (nI D)), some (pI (nI k))]) (fun k _ => rset m r (tset (m.1 r) 2 0 (fun j => if j / 16 = D ∧ j % 4 = e ∧ j % 16 / 4 < k then -1 else m.1 r 2 0 j))) (fun _ _ => True) (fun _ _ => ?_) (fun k _ hk _ ih => ?_) 0 () (by omega) trivial
  · have e0 : tset (m.1 r) 2 0 (fun j => if j / 16 = D ∧ j % 4 = e ∧ j % 16 / 4 < 0 then -1 else m.1 r 2 0 j) = m.1 r := by
      funext t j k
      by_cases e1 : t = 2
      · subst e1
        by_cases e2 : j = 0
        · subst e2
          rw [ts_s, if_neg (by omega)]
        · rw [ts_j e2]
      · rw [ts_t e1]
    rw [e0, rset_id] at key
    exact key
  · refine sgX1_freeSlotsOf_2 ⟨fun _ => ?_, fun q => absurd (geL (Nat.le_refl 4) (by decide)) q⟩
    have e0 : (fun j => if j / 16 = D ∧ j % 4 = e ∧ j % 16 / 4 < 4 then (-1 : Int32) else m.1 r 2 0 j) = (fun k => if k / 16 = D ∧ k % 4 = e then -1 else m.1 r 2 0 k) := by
      funext j
      by_cases z : j / 16 = D ∧ j % 4 = e
      · rw [if_pos z, if_pos (by omega)]
      · rw [if_neg z, if_neg (by omega)]
    rw [e0]
    exact h
  · have hb : 16 * D + 4 * k + e < 160 := by omega
    refine sgX1_freeSlotsOf_2 ⟨fun q => absurd q (ngeL hk (by decide)), fun _ => ⟨by rw [ce_n]; exact vp_in_nI hb (by decide), ?_⟩⟩
    simp (disch := omega) only [ixn, nI_1, nI_add, pk_mul, nI_p0, of0, of1, of2, of3, of4, of5, of6, of7, of8, dv16, dv4, rm4, at_n, pl_n, ce_n, oe_n, oe0, oe1, oe2, ix_0, ix_1, ix_2, ix_3, ix_4, ix_5, ix_6, ix_7, ix_8, setI_eq, rset_rset, rset_s, rset_2, tI_s, tI_t, tI_j, tI_k]
    have := ih () trivial
    have e0 : tI (tset (m.1 r) 2 0 (fun j => if j / 16 = D ∧ j % 4 = e ∧ j % 16 / 4 < k then -1 else m.1 r 2 0 j)) 2 0 (16 * D + 4 * k + e) (-1) = tset (m.1 r) 2 0 (fun j => if j / 16 = D ∧ j % 4 = e ∧ j % 16 / 4 < k + 1 then -1 else m.1 r 2 0 j) := by
      funext t j z
      by_cases e1 : t = 2
      · subst e1
        by_cases e2 : j = 0
        · subst e2
          rw [ts_s]
          by_cases e3 : z = 16 * D + 4 * k + e
          · subst e3; rw [tI_s, if_pos (by omega)]
          · rw [tI_k e3, ts_s]
            by_cases y : z / 16 = D ∧ z % 4 = e ∧ z % 16 / 4 < k
            · rw [if_pos y, if_pos (by omega)]
            · rw [if_neg y, if_neg (by omega)]
        · rw [tI_j e2, ts_j e2, ts_j e2]
      · rw [tI_t e1, ts_t e1, ts_t e1]
    rw [e0]
    exact this
theorem co_takeOnExaminer (hI : Iv K E P (m.1 r)) (hE : E < 4) (h : ∀ τ', Ap τ' (give P (fAddE0 E (m.1 r))) → Q (.inl (some (pI (nI E)))) (rset m r τ') c n) : Wq g (d + 3) MX1_takeOnExaminer c n 0 [some (pO 0 r 0)] [] m Q := by
  refine sgX1_takeOnExaminer ?_
  rw [hI.hE, nI_1, setI_eq]
  have hv := fAddE0_Iv hI hE
  have key := Wq.up (g := g) (d := d + 3) (M := MX1_takeOnExaminer) (c := c) (n := n) (pc := 17) (Q := Q) (S := Nat → Nat → Nat → Int32) 10 (fun k _ => [some (pO 0 r 0), some (pI (nI E)), some (pI (nI k))]) (fun k τ => rset m r τ) (fun k τ => ∀ t j z, τ t j z = if t = 0 ∧ j = 0 ∧ z = 1 then nI (E + 1) else if t = 2 ∧ j = 0 ∧ z / 16 < k ∧ z % 4 = E then -1 else m.1 r t j z) (fun τ hL => ?_) (fun k τ hk hL ih => ?_) 0 (tI (m.1 r) 0 0 1 (nI (E + 1))) (by omega) (fun t j z => by rw [tI_g]; by_cases y : t = 0 ∧ j = 0 ∧ z = 1; rw [if_pos y, if_pos y]; rw [if_neg y, if_neg y, if_neg (by omega)])
  · exact key
  · have e0 : τ = fAddE0 E (m.1 r) := by
      funext t j z
      rw [hL, fAddE0]
      by_cases y : t = 0 ∧ j = 0 ∧ z = 1
      · rw [if_pos y, if_pos y]
      · rw [if_neg y, if_neg y]
        by_cases x : t = 2 ∧ j = 0 ∧ z < 160 ∧ z % 4 = E
        · rw [if_pos x, if_pos (by omega)]
        · rw [if_neg x, if_neg (by omega)]
    rw [e0]
    refine sgX1_takeOnExaminer_17 ⟨fun _ => ?_, fun q => absurd (geL (Nat.le_refl 10) (by decide)) q⟩
    refine co_giveSlotsOut (K := K) (E := E + 1) (P := P) (by rw [rset_s]; exact hv) fun τ' a => ⟨rfl, rfl, ?_⟩
    rw [rset_rset]
    rw [rset_s] at a
    exact h τ' a
  · refine sgX1_takeOnExaminer_17 ⟨fun q => absurd q (ngeL hk (by decide)), fun _ => ?_⟩
    refine co_freeSlotsOf hE hk ⟨rfl, rfl, ?_⟩
    rw [nI_1, rset_s, rset_rset]
    refine ih _ (fun t j z => ?_)
    by_cases y : t = 2 ∧ j = 0
    · obtain ⟨rfl, rfl⟩ := y
      rw [ts_s]
      by_cases x : z / 16 = k ∧ z % 4 = E
      · rw [if_pos x, if_neg (by omega), if_pos (by omega)]
      · have y0 : ¬ ((2 : Nat) = 0 ∧ (0 : Nat) = 0 ∧ z = 1) := by omega
        rw [if_neg x, hL, if_neg y0, if_neg y0]
        by_cases w : z / 16 < k ∧ z % 4 = E
        · rw [if_pos (by omega), if_pos (by omega)]
        · rw [if_neg (by omega), if_neg (by omega)]
    · have e0 : tset τ 2 0 (fun k_1 => if k_1 / 16 = k ∧ k_1 % 4 = E then -1 else τ 2 0 k_1) t j z = τ t j z := by
        by_cases e1 : t = 2
        · subst e1; rw [ts_j (by omega)]
        · rw [ts_t e1]
      rw [e0, hL]
      by_cases x : t = 0 ∧ j = 0 ∧ z = 1
      · rw [if_pos x, if_pos x]
      · rw [if_neg x, if_neg x, if_neg (by omega), if_neg (by omega)]
theorem co_cancelMorning {e D : Nat} (hI : Iv K E P (m.1 r)) (hK : K + 3 < 2 ^ 31) (he : e < E) (hD : D < 10) (h : ∀ τ', Ap τ' (give P (fCan0 P (m.1 r) e D)) → Q (.inl (some (pI (nI (cMoved P (m.1 r) e D))))) (rset m r τ') c n) : Wq g (d + 3) MX1_cancelMorning c n 0 [some (pO 0 r 0), some (pI (nI e)), some (pI (nI D))] [] m Q := by
  have hE := hI.E4
  have hP := hI.P12
  refine sgX1_cancelMorning ?_
  have stp : ∀ (K : Nat) (τ : Nat → Nat → Nat → Int32) (k v : Nat), k < 2 → v < 2 → Iv K E P τ → (∀ τ', fMor P τ (16 * D + 4 * k + e) = τ' → Wq g (d + 3) MX1_cancelMorning c n 5 [some (pO 0 r 0), some (pI (nI e)), some (pI (nI D)), some (pI (nI (v + if isPu P (τ 2 0 (16 * D + 4 * k + e)) then 1 else 0))), some (pI (nI (k + 1))), none, none] [] (rset m r τ') Q) → Wq g (d + 3) MX1_cancelMorning c n 5 [some (pO 0 r 0), some (pI (nI e)), some (pI (nI D)), some (pI (nI v)), some (pI (nI k)), none, none] [] (rset m r τ) Q := by
    intro K τ k v hk hv hI hn
    have hb : 16 * D + 4 * k + e < 160 := by omega
    refine sgX1_cancelMorning_5 ⟨fun q => absurd q (ngeL hk (by decide)), fun _ => ⟨by rw [ce_n]; exact vp_in_nI hb (by decide), by rw [ce_n]; exact vp_in_nI hb (by decide), ?_⟩⟩
    simp (disch := omega) only [ixn, nI_1, nI_add, pk_mul, nI_p0, of0, of1, of2, of3, of4, of5, of6, of7, of8, dv16, dv4, rm4, at_n, pl_n, ce_n, oe_n, oe0, oe1, oe2, ix_0, ix_1, ix_2, ix_3, ix_4, ix_5, ix_6, ix_7, ix_8, setI_eq, rset_rset, rset_s, rset_2, tI_s, tI_t, tI_j, tI_k]
    have hpu := isPu_iff hI hb
    rw [hI.hP]
    have hc := Ce_pu hI.P12 (hI.ce hb)
    unfold fMor at hn
    by_cases z : isPu P (τ 2 0 (16 * D + 4 * k + e)) = true
    · obtain ⟨p, hp, ep⟩ := hpu.mp z
      refine ⟨fun q => absurd (hc.mpr ⟨p, hp, ep⟩) q, fun _ => ?_⟩
      rw [if_pos z, if_pos z] at hn
      rw [ep] at hn ⊢
      refine ⟨vp_in_nI (by omega) (by decide), vp_in_nI (by omega) (by decide), ?_⟩
      simp (disch := omega) only [ixn, nI_1, nI_add, pk_mul, nI_p0, of0, of1, of2, of3, of4, of5, of6, of7, of8, dv16, dv4, rm4, at_n, pl_n, ce_n, oe_n, oe0, oe1, oe2, ix_0, ix_1, ix_2, ix_3, ix_4, ix_5, ix_6, ix_7, ix_8, setI_eq, rset_rset, rset_s, rset_2, tI_s, tI_t, tI_j, tI_k]
      refine hn _ ?_
      simp (disch := omega) only [ixn, nI_1, nI_add, pk_mul, nI_p0, of0, of1, of2, of3, of4, of5, of6, of7, of8, dv16, dv4, rm4, at_n, pl_n, ce_n, oe_n, oe0, oe1, oe2, ix_0, ix_1, ix_2, ix_3, ix_4, ix_5, ix_6, ix_7, ix_8, setI_eq, rset_rset, rset_s, rset_2, tI_s, tI_t, tI_j, tI_k]
      unfold fWait
      simp (disch := omega) only [ixn, nI_1, nI_add, pk_mul, nI_p0, of0, of1, of2, of3, of4, of5, of6, of7, of8, dv16, dv4, rm4, at_n, pl_n, ce_n, oe_n, oe0, oe1, oe2, ix_0, ix_1, ix_2, ix_3, ix_4, ix_5, ix_6, ix_7, ix_8, setI_eq, rset_rset, rset_s, rset_2, tI_s, tI_t, tI_j, tI_k]
    · refine ⟨fun _ => ?_, fun q => absurd (hpu.mpr (hc.mp q)) z⟩
      rw [if_neg z, if_neg z] at hn
      exact hn _ rfl
  have I1 : Iv (K + 2) E P (fMor P (m.1 r) (16 * D + 4 * 0 + e)) := fMor_Iv hI (by omega) (by omega) (by omega)
  have e2 : fMor P (m.1 r) (16 * D + 4 * 0 + e) 2 0 (16 * D + 4 * 1 + e) = m.1 r 2 0 (16 * D + 4 * 1 + e) := by
    unfold fMor
    split
    · unfold fWait
      simp (disch := omega) only [setI_eq, rset_rset, rset_s, rset_2, tI_s, tI_t, tI_j, tI_k]
    · simp (disch := omega) only [setI_eq, rset_rset, rset_s, rset_2, tI_s, tI_t, tI_j, tI_k]
  have e5 : ∀ τ i, fMor P τ i 5 = τ 5 := fun τ i => by
    unfold fMor
    split
    · unfold fWait
      simp (disch := omega) only [setI_eq, rset_rset, rset_s, rset_2, tI_s, tI_t, tI_j, tI_k]
    · simp (disch := omega) only [setI_eq, rset_rset, rset_s, rset_2, tI_s, tI_t, tI_j, tI_k]
  have := stp K (m.1 r) 0 0 (by decide) (by decide) hI (fun τ1 e1 => by
    subst e1
    refine stp (K + 2) _ 1 _ (by decide) (by split <;> decide) I1 (fun τ2 e3 => ?_)
    rw [e2]
    refine sgX1_cancelMorning_5 ⟨fun _ => ?_, fun q => absurd (geL (Nat.le_refl 2) (by decide)) q⟩
    refine ⟨vp_in_nI (by omega) (by decide), ?_⟩
    simp (disch := omega) only [ixn, nI_1, nI_add, pk_mul, nI_p0, of0, of1, of2, of3, of4, of5, of6, of7, of8, dv16, dv4, rm4, at_n, pl_n, ce_n, oe_n, oe0, oe1, oe2, ix_0, ix_1, ix_2, ix_3, ix_4, ix_5, ix_6, ix_7, ix_8, setI_eq, rset_rset, rset_s, rset_2, tI_s, tI_t, tI_j, tI_k]
    subst e3
    rw [e5, e5]
    refine co_giveSlotsOut (K := K + 4) (E := E) (P := P) (by rw [rset_s]; exact fCan0_Iv hI he hD hK) fun τ' a => ⟨rfl, rfl, ?_⟩
    rw [rset_rset]
    rw [rset_s] at a
    have := h τ' a
    unfold cMoved at this
    rw [Nat.zero_add]
    exact this)
  rw [rset_id] at this
  exact this
theorem co_holdTest {p i : Nat} {x2 : Int32} (hI : Iv K E P (m.1 r)) (hp : p < P) (hc : cCell (m.1 r) (nI p) = some i) (h0 : x2 = 0 → Q (.inl (some (pI (nI (cRt (m.1 r) p i))))) (rset m r (fTestF (m.1 r) p i)) c n) (h1 : ¬ x2 = 0 → Q (.inl (some (pI (nI (cRt (m.1 r) p i))))) (rset m r (fTestP (m.1 r) p i)) c n) : Wq g (d + 2) MX1_holdTest c n 0 [some (pO 0 r 0), some (pI (nI p)), some (pI x2)] [] m Q := by
  have hP := hI.P12
  have hi := cCell_lt hc
  have hr : cRt (m.1 r) p i < 4 := by
    have K : ∀ (t : Nat → Int32) av k i b, i + k ≤ 4 → b < 4 → cLeast t av k i b < 4 := by
      intro t av k
      induction k with
      | zero => intro i b _ hb; exact hb
      | succ k ih =>
        intro i b hi hb
        rw [cLeast]
        split
        · exact ih _ _ (by omega) hb
        · split
          · exact ih _ _ (by omega) hb
          · exact ih _ _ (by omega) (by omega)
    unfold cRt cRoute
    split
    · exact K _ _ _ _ _ (by decide) (by decide)
    · exact K _ _ _ _ _ (by decide) (by decide)
  refine sgX1_holdTest ⟨vp_in_nI (by omega) (by decide), co_cellOf ⟨rfl, rfl, ?_⟩⟩
  have hc' : fnd (fun i => decide (m.1 r 2 0 i = nI p)) 160 0 = some i := hc
  rw [hc']
  refine ⟨fun _ => ?_, fun q => absurd q (nI_m1 (by omega))⟩
  simp only [oI]
  simp (disch := omega) only [ixn, nI_1, nI_add, pk_mul, nI_p0, of0, of1, of2, of3, of4, of5, of6, of7, of8, dv16, dv4, rm4, at_n, pl_n, ce_n, oe_n, oe0, oe1, oe2, ix_0, ix_1, ix_2, ix_3, ix_4, ix_5, ix_6, ix_7, ix_8]
  refine co_routeFor (by omega) (by omega) ⟨rfl, rfl, ?_⟩
  show _ ∧ _
  have ec : cRoute (m.1 r 6 (i % 4)) (m.1 r 4 p 3) = cRt (m.1 r) p i := rfl
  rw [ec]
  refine ⟨vp_in_nI (by omega) (by decide), vp_in_nI (by omega) (by decide), vp_in_nI (by omega) (by decide), vp_in_nI (by omega) (by decide), fun q => ?_, fun q => ⟨vp_in_nI (by omega) (by decide), ?_⟩⟩
  · have := h0 q
    unfold fTestF fTest1 at this
    simp (disch := omega) only [ixn, nI_1, nI_add, pk_mul, nI_p0, of0, of1, of2, of3, of4, of5, of6, of7, of8, dv16, dv4, rm4, at_n, pl_n, ce_n, oe_n, oe0, oe1, oe2, ix_0, ix_1, ix_2, ix_3, ix_4, ix_5, ix_6, ix_7, ix_8, setI_eq, rset_rset, rset_s, rset_2, tI_s, tI_t, tI_j, tI_k]
    exact this
  · have := h1 q
    unfold fTestP fTest1 at this
    simp (disch := omega) only [ixn, nI_1, nI_add, pk_mul, nI_p0, of0, of1, of2, of3, of4, of5, of6, of7, of8, dv16, dv4, rm4, at_n, pl_n, ce_n, oe_n, oe0, oe1, oe2, ix_0, ix_1, ix_2, ix_3, ix_4, ix_5, ix_6, ix_7, ix_8, setI_eq, rset_rset, rset_s, rset_2, tI_s, tI_t, tI_j, tI_k]
    exact this
end O3
