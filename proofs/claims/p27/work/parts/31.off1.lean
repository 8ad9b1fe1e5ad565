/-! THE OFFICE, what only reads: answers as functions of the office's own rows -/
theorem ix_1 : ix (1 : Int32) = 1 := by decide
theorem dv16 {i : Nat} (h : i < 2 ^ 31) : nI i / 16 = nI (i / 16) := pk_div h (by decide) (by decide)
theorem dv4 {i : Nat} (h : i < 2 ^ 31) : nI i / 4 = nI (i / 4) := pk_div h (by decide) (by decide)
theorem rm4 {i : Nat} (h : i < 2 ^ 31) : irm (nI i) 4 = nI (i % 4) := pk_rem h (by decide) (by decide)
/-- may a pupil meet an examiner; may a pupil come in so many days; can a cell be had -/
def cMeet (τ : Nat → Nat → Nat → Int32) (p e : Nat) : Bool := decide (τ 1 0 1 = 0 ∨ ¬ τ 4 p 4 = nI e)
def cCome (τ : Nat → Nat → Nat → Int32) (p D : Nat) : Bool := decide (¬ (τ 0 0 0 + nI D) < τ 4 p 2)
def cCan (τ : Nat → Nat → Nat → Int32) (p i : Nat) : Bool := decide (τ 2 0 i = -1) && (cCome τ p (i / 16) && cMeet τ p (i % 4))
def cAhead (τ : Nat → Nat → Nat → Int32) (q p : Nat) : Bool := decide (((τ 4 p 5) < (τ 4 q 5)) ∨ (((τ 4 q 5) = (τ 4 p 5)) ∧ (¬ (τ 4 p 6) ≤ (τ 4 q 6))))
def cPlace (τ : Nat → Nat → Nat → Int32) (P p : Nat) : Nat := cN (fun q => decide (τ 4 q 0 = 1) && cAhead τ q p) P
def cOut (τ : Nat → Nat → Nat → Int32) (E p G : Nat) : Bool := (fnd (fun e => !G.testBit e && cMeet τ p e) E 0).isSome
def cFreeG (τ : Nat → Nat → Nat → Int32) (D G : Nat) : Nat := cN (fun i => decide (τ 2 0 (16 * D + i) = -1) && G.testBit (i % 4)) 16
def cKept (τ : Nat → Nat → Nat → Int32) (E P D G : Nat) : Nat := cN (fun p => (decide (τ 4 p 0 = 0) || decide (τ 4 p 0 = 1)) && (cCome τ p D && cOut τ E p G)) P
def cMost (τ : Nat → Nat → Nat → Int32) (E P D : Nat) : Nat → Nat
  | 0 => 12
  | G + 1 => if cFreeG τ D G + cKept τ E P D G < cMost τ E P D G then cFreeG τ D G + cKept τ E P D G else cMost τ E P D G
def cLeast (t : Nat → Int32) (av : Int32) : Nat → Nat → Nat → Nat
  | 0, _, b => b
  | k + 1, i, b => if nI i = av then cLeast t av k (i + 1) b else if t b ≤ t i then cLeast t av k (i + 1) b else cLeast t av k (i + 1) i
def cRoute (t : Nat → Int32) (av : Int32) : Nat := if av = 0 then cLeast t av 2 2 1 else cLeast t av 3 1 0
theorem in_group : ∀ G, G < 16 → ∀ e, e < 4 → (((nI G >>> (nI e &&& 31)) &&& 1) = 1 ↔ G.testBit e = true) := by decide +kernel
section O1
variable {g : GG} {d : Nat} {c n : Nat} {m : PM} {Q : Ou → PM → Nat → Nat → Prop} {r : Nat}
theorem co_cellOf {x1 : Int32} (h : Q (.inl (some (pI (oI (fnd (fun i => decide (m.1 r 2 0 i = x1)) 160 0))))) m c n) : Wq g d MX1_cellOf c n 0 [some (pO 0 r 0), some (pI x1)] [] m Q := by
  refine sgX1_cellOf ?_
  refine Wq.up (S := Unit) 160 (fun i _ => [some (pO 0 r 0), some (pI x1), some (pI (nI i))]) (fun _ _ => m) (fun i _ => Q (.inl (some (pI (oI (fnd (fun i => decide (m.1 r 2 0 i = x1)) (160 - i) i))))) m c n) (fun _ hI => ?_) (fun i _ hi hI ih => ?_) 0 () (by omega) h
  · exact sgX1_cellOf_2 ⟨fun _ => hI, fun q => absurd (geL (Nat.le_refl 160) (by decide)) q⟩
  · refine sgX1_cellOf_2 ⟨fun q => absurd q (ngeL hi (by decide)), fun _ => ⟨vp_in_nI hi (by decide), fun q => ?_, fun q => ?_⟩⟩
    · rw [ixn (by omega)] at q
      rw [nI_1]
      refine ih () ?_
      rw [show 160 - i = (160 - (i + 1)) + 1 by omega, fnd, if_neg (by simpa using q)] at hI
      exact hI
    · rw [ixn (by omega)] at q
      rw [show 160 - i = (160 - (i + 1)) + 1 by omega, fnd, if_pos (by simpa using q)] at hI
      exact hI
theorem co_earliestCell {p : Nat} (hp : p < 12) (h : Q (.inl (some (pI (oI (fnd (cCan (m.1 r) p) 160 0))))) m c n) : Wq g (d + 1) MX1_earliestCell c n 0 [some (pO 0 r 0), some (pI (nI p))] [] m Q := by
  refine sgX1_earliestCell ?_
  refine Wq.up (S := Unit) 160 (fun i _ => [some (pO 0 r 0), some (pI (nI p)), some (pI (nI i))]) (fun _ _ => m) (fun i _ => Q (.inl (some (pI (oI (fnd (cCan (m.1 r) p) (160 - i) i))))) m c n) (fun _ hI => ?_) (fun i _ hi hI ih => ?_) 0 () (by omega) h
  · exact sgX1_earliestCell_2 ⟨fun _ => hI, fun q => absurd (geL (Nat.le_refl 160) (by decide)) q⟩
  · have hp12 : vp_in (nI p) 12 := vp_in_nI hp (by decide)
    rw [show 160 - i = (160 - (i + 1)) + 1 by omega, fnd] at hI
    have no : ¬ cCan (m.1 r) p i = true → Wq g (d + 1) MX1_earliestCell c n 2 [some (pO 0 r 0), some (pI (nI p)), some (pI (nI i + 1))] [] m Q := fun hc => by
      rw [if_neg hc] at hI
      rw [nI_1]
      exact ih () hI
    refine sgX1_earliestCell_2 ⟨fun q => absurd q (ngeL hi (by decide)), fun _ => ⟨vp_in_nI hi (by decide), fun q => no ?_, fun q => ⟨⟨hp12, trivial⟩, fun q2 => no ?_, fun q2 => ⟨fun _ => ⟨hp12, trivial⟩, fun q3 => no ?_, fun q3 => ?_⟩⟩⟩⟩
    all_goals simp only [ixn (show i < 2 ^ 31 by omega), ixn (show p < 2 ^ 31 by omega), dv16 (show i < 2 ^ 31 by omega), rm4 (show i < 2 ^ 31 by omega), ix_1] at *
    · simp [cCan, q]
    · simp only [cCan, cCome, Bool.and_eq_true, decide_eq_true_eq]
      exact fun z => q2 z.2.1
    · simp only [cCan, cMeet, Bool.and_eq_true, decide_eq_true_eq]
      exact fun z => q3 z.2.2
    · rw [if_pos (by simp only [cCan, cCome, cMeet, Bool.and_eq_true, decide_eq_true_eq]; exact ⟨q, q2, q3⟩)] at hI
      exact hI
theorem co_cellsOfExaminer {e : Nat} {x2 : Int32} (he : e < 4) (h : Q (.inl (some (pI (nI (cN (fun k => decide (m.1 r 2 0 (4 * k + e) = x2)) 40))))) m c n) : Wq g d MX1_cellsOfExaminer c n 0 [some (pO 0 r 0), some (pI (nI e)), some (pI x2)] [] m Q := by
  refine sgX1_cellsOfExaminer ?_
  have := Wq.up (g := g) (d := d) (M := MX1_cellsOfExaminer) (c := c) (n := n) (pc := 5) (Q := Q) (S := Unit) 40 (fun k _ => [some (pO 0 r 0), none, some (pI x2), some (pI (nI (cN (fun k => decide (m.1 r 2 0 (4 * k + e) = x2)) k))), some (pI (nI (4 * k + e)))]) (fun _ _ => m) (fun _ _ => True) (fun _ hI => ?_) (fun k _ hk hI ih => ?_) 0 () (by omega) trivial
  · rw [Nat.mul_zero, Nat.zero_add] at this
    exact this
  · exact sgX1_cellsOfExaminer_5 ⟨fun _ => h, fun q => absurd (geL (show 160 ≤ 4 * 40 + e by omega) (by omega)) q⟩
  · have hN : nI (4 * k + e) + 4 = nI (4 * (k + 1) + e) := by
      rw [show (4 : Int32) = nI 4 from rfl, nI_add, show 4 * k + e + 4 = 4 * (k + 1) + e by omega]
    refine sgX1_cellsOfExaminer_5 ⟨fun q => absurd q (ngeL (show 4 * k + e < 160 by omega) (by decide)), fun _ => ⟨vp_in_nI (show 4 * k + e < 160 by omega) (by decide), fun q => ?_, fun q => ?_⟩⟩
    · rw [ixn (by omega)] at q
      have := ih () trivial
      rw [cN, if_neg (by simpa using q)] at this
      rw [hN]
      exact this
    · rw [ixn (by omega)] at q
      have := ih () trivial
      rw [cN, if_pos (by simpa using q)] at this
      rw [hN, nI_1]
      exact this
theorem co_pupilsWho {x1 : Int32} {P : Nat} (hP : m.1 r 0 0 2 = nI P) (hP12 : P ≤ 12) (h : Q (.inl (some (pI (nI (cN (fun p => decide (m.1 r 4 p 0 = x1)) P))))) m c n) : Wq g d MX1_pupilsWho c n 0 [some (pO 0 r 0), some (pI x1)] [] m Q := by
  refine sgX1_pupilsWho ?_
  refine Wq.up (S := Unit) P (fun i _ => [some (pO 0 r 0), some (pI x1), some (pI (nI (cN (fun p => decide (m.1 r 4 p 0 = x1)) i))), some (pI (nI i))]) (fun _ _ => m) (fun i _ => True) (fun _ hI => ?_) (fun i _ hi hI ih => ?_) 0 () (by omega) trivial
  · exact sgX1_pupilsWho_4 ⟨fun _ => h, fun q => absurd (by rw [hP]; exact geL (Nat.le_refl P) (by omega)) q⟩
  · refine sgX1_pupilsWho_4 ⟨fun q => absurd (by rw [← hP]; exact q) (ngeL hi (by omega)), fun _ => ⟨vp_in_nI (show i < 12 by omega) (by decide), fun q => ?_, fun q => ?_⟩⟩
    · rw [ixn (by omega)] at q
      have := ih () trivial
      rw [cN, if_neg (by simpa using q)] at this
      rw [nI_1]
      exact this
    · rw [ixn (by omega)] at q
      have := ih () trivial
      rw [cN, if_pos (by simpa using q)] at this
      rw [nI_1, nI_1]
      exact this
theorem co_moneyTaken {P : Nat} (hP : m.1 r 0 0 2 = nI P) (hP12 : P ≤ 12) (h : Q (.inl (some (pI (sI (fun p => m.1 r 4 p 7) P)))) m c n) : Wq g d MX1_moneyTaken c n 0 [some (pO 0 r 0)] [] m Q := by
  refine sgX1_moneyTaken ?_
  refine Wq.up (S := Unit) P (fun i _ => [some (pO 0 r 0), some (pI (sI (fun p => m.1 r 4 p 7) i)), some (pI (nI i))]) (fun _ _ => m) (fun i _ => True) (fun _ hI => ?_) (fun i _ hi hI ih => ?_) 0 () (by omega) trivial
  · exact sgX1_moneyTaken_4 ⟨fun _ => h, fun q => absurd (by rw [hP]; exact geL (Nat.le_refl P) (by omega)) q⟩
  · refine sgX1_moneyTaken_4 ⟨fun q => absurd (by rw [← hP]; exact q) (ngeL hi (by omega)), fun _ => ⟨vp_in_nI (show i < 12 by omega) (by decide), ?_⟩⟩
    rw [nI_1, ixn (by omega)]
    exact ih () trivial
theorem co_movedSoFar {P : Nat} (hP : m.1 r 0 0 2 = nI P) (hP12 : P ≤ 12) (h : Q (.inl (some (pI (sI (fun p => m.1 r 4 p 5) P)))) m c n) : Wq g d MX1_movedSoFar c n 0 [some (pO 0 r 0)] [] m Q := by
  refine sgX1_movedSoFar ?_
  refine Wq.up (S := Unit) P (fun i _ => [some (pO 0 r 0), some (pI (sI (fun p => m.1 r 4 p 5) i)), some (pI (nI i))]) (fun _ _ => m) (fun i _ => True) (fun _ hI => ?_) (fun i _ hi hI ih => ?_) 0 () (by omega) trivial
  · exact sgX1_movedSoFar_4 ⟨fun _ => h, fun q => absurd (by rw [hP]; exact geL (Nat.le_refl P) (by omega)) q⟩
  · refine sgX1_movedSoFar_4 ⟨fun q => absurd (by rw [← hP]; exact q) (ngeL hi (by omega)), fun _ => ⟨vp_in_nI (show i < 12 by omega) (by decide), ?_⟩⟩
    rw [nI_1, ixn (by omega)]
    exact ih () trivial
theorem co_passedSoFar {E : Nat} (hE : m.1 r 0 0 1 = nI E) (hE4 : E ≤ 4) (h : Q (.inl (some (pI (sI (fun e => m.1 r 5 e 1) E)))) m c n) : Wq g d MX1_passedSoFar c n 0 [some (pO 0 r 0)] [] m Q := by
  refine sgX1_passedSoFar ?_
  refine Wq.up (S := Unit) E (fun i _ => [some (pO 0 r 0), some (pI (sI (fun e => m.1 r 5 e 1) i)), some (pI (nI i))]) (fun _ _ => m) (fun i _ => True) (fun _ hI => ?_) (fun i _ hi hI ih => ?_) 0 () (by omega) trivial
  · exact sgX1_passedSoFar_4 ⟨fun _ => h, fun q => absurd (by rw [hE]; exact geL (Nat.le_refl E) (by omega)) q⟩
  · refine sgX1_passedSoFar_4 ⟨fun q => absurd (by rw [← hE]; exact q) (ngeL hi (by omega)), fun _ => ⟨vp_in_nI (show i < 4 by omega) (by decide), ?_⟩⟩
    rw [nI_1, ixn (by omega)]
    exact ih () trivial
theorem co_tests {e : Nat} (h : Q (.inl (some (pI (sI (m.1 r 6 e) 4)))) m c n) : Wq g d MX0_tests c n 0 [some (pO 5 r e)] [] m Q := by
  refine sgX0_tests ?_
  refine Wq.up (S := Unit) 4 (fun i _ => [some (pO 5 r e), some (pI (sI (m.1 r 6 e) i)), some (pI (nI i))]) (fun _ _ => m) (fun i _ => True) (fun _ hI => ?_) (fun i _ hi hI ih => ?_) 0 () (by omega) trivial
  · exact sgX0_tests_4 ⟨fun _ => h, fun q => absurd (geL (Nat.le_refl 4) (by decide)) q⟩
  · refine sgX0_tests_4 ⟨fun q => absurd q (ngeL hi (by decide)), fun _ => ⟨vp_in_nI hi (by decide), ?_⟩⟩
    rw [nI_1, ixn (by omega)]
    exact ih () trivial
theorem co_testsSoFar {E : Nat} (hE : m.1 r 0 0 1 = nI E) (hE4 : E ≤ 4) (h : Q (.inl (some (pI (sI (fun e => sI (m.1 r 6 e) 4) E)))) m c n) : Wq g (d + 1) MX1_testsSoFar c n 0 [some (pO 0 r 0)] [] m Q := by
  refine sgX1_testsSoFar ?_
  refine Wq.up (S := Unit) E (fun i _ => [some (pO 0 r 0), some (pI (sI (fun e => sI (m.1 r 6 e) 4) i)), some (pI (nI i))]) (fun _ _ => m) (fun i _ => True) (fun _ hI => ?_) (fun i _ hi hI ih => ?_) 0 () (by omega) trivial
  · exact sgX1_testsSoFar_4 ⟨fun _ => h, fun q => absurd (by rw [hE]; exact geL (Nat.le_refl E) (by omega)) q⟩
  · refine sgX1_testsSoFar_4 ⟨fun q => absurd (by rw [← hE]; exact q) (ngeL hi (by omega)), fun _ => ⟨vp_in_nI (show i < 4 by omega) (by decide), ?_⟩⟩
    rw [ixn (by omega)]
    refine co_tests ⟨rfl, rfl, ?_⟩
    show Wq g (d + 1) MX1_testsSoFar c n 4 [some (pO 0 r 0), some (pI (sI (fun e => sI (m.1 r 6 e) 4) i + sI (m.1 r 6 i) 4)), some (pI (nI i + 1))] [] m Q
    rw [nI_1]
    exact ih () trivial
theorem co_freeSlots {E : Nat} (hE : m.1 r 0 0 1 = nI E) (hE4 : E ≤ 4) (h : Q (.inl (some (pI (sI (fun e => nI (cN (fun k => decide (m.1 r 2 0 (4 * k + e) = -1)) 40)) E)))) m c n) : Wq g (d + 1) MX1_freeSlots c n 0 [some (pO 0 r 0)] [] m Q := by
  refine sgX1_freeSlots ?_
  refine Wq.up (S := Unit) E (fun i _ => [some (pO 0 r 0), some (pI (sI (fun e => nI (cN (fun k => decide (m.1 r 2 0 (4 * k + e) = -1)) 40)) i)), some (pI (nI i))]) (fun _ _ => m) (fun i _ => True) (fun _ hI => ?_) (fun i _ hi hI ih => ?_) 0 () (by omega) trivial
  · exact sgX1_freeSlots_4 ⟨fun _ => h, fun q => absurd (by rw [hE]; exact geL (Nat.le_refl E) (by omega)) q⟩
  · refine sgX1_freeSlots_4 ⟨fun q => absurd (by rw [← hE]; exact q) (ngeL hi (by omega)), fun _ => ?_⟩
    refine co_cellsOfExaminer (show i < 4 by omega) ⟨rfl, rfl, ?_⟩
    show Wq g (d + 1) MX1_freeSlots c n 4 [some (pO 0 r 0), some (pI (sI (fun e => nI (cN (fun k => decide (m.1 r 2 0 (4 * k + e) = -1)) 40)) i + nI (cN (fun k => decide (m.1 r 2 0 (4 * k + i) = -1)) 40))), some (pI (nI i + 1))] [] m Q
    rw [nI_1]
    exact ih () trivial
/-- a cell tells a pupil -/
def isPu (P : Nat) (x : Int32) : Bool := decide ((¬ x < 0) ∧ (¬ nI P ≤ x))
theorem co_daysToAllSlots {P : Nat} (hP : m.1 r 0 0 2 = nI P) (h : Q (.inl (some (pI (sI (fun i => if isPu P (m.1 r 2 0 i) then nI (i / 16) else 0) 160)))) m c n) : Wq g (d + 1) MX1_daysToAllSlots c n 0 [some (pO 0 r 0)] [] m Q := by
  refine sgX1_daysToAllSlots ?_
  refine Wq.up (S := Unit) 160 (fun i _ => [some (pO 0 r 0), some (pI (sI (fun i => if isPu P (m.1 r 2 0 i) then nI (i / 16) else 0) i)), some (pI (nI i))]) (fun _ _ => m) (fun i _ => True) (fun _ hI => ?_) (fun i _ hi hI ih => ?_) 0 () (by omega) trivial
  · exact sgX1_daysToAllSlots_4 ⟨fun _ => h, fun q => absurd (geL (Nat.le_refl 160) (by decide)) q⟩
  · have := ih () trivial
    refine sgX1_daysToAllSlots_4 ⟨fun q => absurd q (ngeL hi (by decide)), fun _ => ⟨vp_in_nI hi (by decide), fun q => ?_, fun q => ?_⟩⟩
    all_goals rw [ixn (by omega), hP] at q
    · rw [nI_1]
      rw [sI, if_neg (by simpa only [isPu, decide_eq_true_eq] using q), show ∀ x : Int32, x + 0 = x from fun x => by simp] at this
      exact this
    · rw [nI_1, dv16 (by omega)]
      rw [sI, if_pos (by simpa only [isPu, decide_eq_true_eq] using q)] at this
      exact this
theorem co_placeInQueue {P p : Nat} (hP : m.1 r 0 0 2 = nI P) (hP12 : P ≤ 12) (hp : p < 12) (h : Q (.inl (some (pI (if m.1 r 4 p 0 = 1 then nI (cPlace (m.1 r) P p) else -1)))) m c n) : Wq g (d + 1) MX1_placeInQueue c n 0 [some (pO 0 r 0), some (pI (nI p))] [] m Q := by
  refine sgX1_placeInQueue ⟨vp_in_nI hp (by decide), fun q => ?_, fun q => ?_⟩
  · rw [ixn (by omega)] at q
    rw [if_pos q] at h
    rw [ixn (by omega)]
    refine Wq.up (S := Unit) P (fun i _ => [some (pO 0 r 0), none, some (pO 4 r p), some (pI (nI (cN (fun q => decide (m.1 r 4 q 0 = 1) && cAhead (m.1 r) q p) i))), some (pI (nI i))]) (fun _ _ => m) (fun i _ => True) (fun _ hI => ?_) (fun i _ hi hI ih => ?_) 0 () (by omega) trivial
    · exact sgX1_placeInQueue_22 ⟨fun _ => h, fun q => absurd (by rw [hP]; exact geL (Nat.le_refl P) (by omega)) q⟩
    · have := ih () trivial
      refine sgX1_placeInQueue_22 ⟨fun q => absurd (by rw [← hP]; exact q) (ngeL hi (by omega)), fun _ => ⟨vp_in_nI (show i < 12 by omega) (by decide), fun q => ?_, fun q => ⟨vp_in_nI (show i < 12 by omega) (by decide), fun q2 => ?_, fun q2 => ?_⟩⟩⟩
      · rw [ixn (by omega)] at q
        rw [nI_1]
        rw [cN, if_neg (by simp [q])] at this
        exact this
      · rw [ixn (by omega)] at q q2
        rw [nI_1]
        rw [cN, if_neg (by simp only [cAhead, Bool.and_eq_true, decide_eq_true_eq]; exact fun z => q2 z.2)] at this
        exact this
      · rw [ixn (by omega)] at q q2
        rw [nI_1, nI_1]
        rw [cN, if_pos (by simp only [cAhead, Bool.and_eq_true, decide_eq_true_eq]; exact ⟨q, q2⟩)] at this
        exact this
  · rw [ixn (by omega)] at q
    rw [if_neg q] at h
    exact h
theorem co_mayMeetOutside {E p G : Nat} (hE : m.1 r 0 0 1 = nI E) (hE4 : E ≤ 4) (hp : p < 12) (hG : G < 16) (h : Q (.inl (some (pI (if cOut (m.1 r) E p G then 1 else 0)))) m c n) : Wq g (d + 1) MX1_mayMeetOutside c n 0 [some (pO 0 r 0), some (pI (nI p)), some (pI (nI G))] [] m Q := by
  refine sgX1_mayMeetOutside ?_
  refine Wq.up (S := Unit) E (fun i _ => [some (pO 0 r 0), some (pI (nI p)), some (pI (nI G)), some (pI (nI i))]) (fun _ _ => m) (fun i _ => Q (.inl (some (pI (if (fnd (fun e => !G.testBit e && cMeet (m.1 r) p e) (E - i) i).isSome then 1 else 0)))) m c n) (fun _ hI => ?_) (fun i _ hi hI ih => ?_) 0 () (by omega) h
  · rw [Nat.sub_self] at hI
    exact sgX1_mayMeetOutside_2 ⟨fun _ => hI, fun q => absurd (by rw [hE]; exact geL (Nat.le_refl E) (by omega)) q⟩
  · rw [show E - i = (E - (i + 1)) + 1 by omega, fnd] at hI
    have no : ¬ (!G.testBit i && cMeet (m.1 r) p i) = true → Wq g (d + 1) MX1_mayMeetOutside c n 2 [some (pO 0 r 0), some (pI (nI p)), some (pI (nI G)), some (pI (nI i + 1))] [] m Q := fun hc => by
      rw [if_neg hc] at hI
      rw [nI_1]
      exact ih () hI
    refine sgX1_mayMeetOutside_2 ⟨fun q => absurd (by rw [← hE]; exact q) (ngeL hi (by omega)), fun _ => ⟨fun q => no ?_, fun q => ⟨fun _ => ⟨vp_in_nI hp (by decide), trivial⟩, fun q2 => no ?_, fun q2 => ?_⟩⟩⟩
    · rw [in_group G hG i (by omega)] at q
      simp [q]
    · rw [ixn (by omega), ix_1] at q2
      simp only [cMeet, Bool.and_eq_true, decide_eq_true_eq]
      exact fun z => q2 z.2
    · rw [ixn (by omega), ix_1] at q2
      rw [in_group G hG i (by omega)] at q
      have hb : G.testBit i = false := by simpa using q
      have hm : cMeet (m.1 r) p i = true := by simp only [cMeet, decide_eq_true_eq]; exact q2
      rw [if_pos (by rw [hb, hm]; rfl)] at hI
      exact hI
theorem co_freeSlotsOfGroup {G D : Nat} (hG : G < 16) (hD : D < 10) (h : Q (.inl (some (pI (nI (cFreeG (m.1 r) D G))))) m c n) : Wq g (d + 1) MX1_freeSlotsOfGroup c n 0 [some (pO 0 r 0), some (pI (nI G)), some (pI (nI D))] [] m Q := by
  refine sgX1_freeSlotsOfGroup ?_
  refine Wq.up (S := Unit) 16 (fun i _ => [some (pO 0 r 0), some (pI (nI G)), some (pI (nI D)), some (pI (nI (cN (fun i => decide (m.1 r 2 0 (16 * D + i) = -1) && G.testBit (i % 4)) i))), some (pI (nI i))]) (fun _ _ => m) (fun i _ => True) (fun _ hI => ?_) (fun i _ hi hI ih => ?_) 0 () (by omega) trivial
  · exact sgX1_freeSlotsOfGroup_5 ⟨fun _ => h, fun q => absurd (geL (Nat.le_refl 16) (by decide)) q⟩
  · have := ih () trivial
    have ei : nI D * 16 + nI i = nI (16 * D + i) := by
      rw [show (16 : Int32) = nI 16 from rfl, pk_mul, nI_add, Nat.mul_comm]
    have hb : 16 * D + i < 160 := by omega
    refine sgX1_freeSlotsOfGroup_5 ⟨fun q => absurd q (ngeL hi (by decide)), fun _ => ⟨by rw [ei]; exact vp_in_nI hb (by decide), fun q => ?_, fun q => ⟨fun q2 => ?_, fun q2 => ?_⟩⟩⟩
    · rw [ei, ixn (by omega)] at q
      rw [nI_1]
      rw [cN, if_neg (by simp [q])] at this
      exact this
    · rw [rm4 (by omega), in_group G hG (i % 4) (by omega)] at q2
      rw [nI_1]
      rw [cN, if_neg (by simp [q2])] at this
      exact this
    · rw [rm4 (by omega), in_group G hG (i % 4) (by omega)] at q2
      rw [ei, ixn (by omega)] at q
      rw [nI_1, nI_1]
      rw [cN, if_pos (by simp [q, q2])] at this
      exact this
theorem co_pupilsNotKeptTo {E P G D : Nat} (hE : m.1 r 0 0 1 = nI E) (hE4 : E ≤ 4) (hP : m.1 r 0 0 2 = nI P) (hP12 : P ≤ 12) (hG : G < 16) (h : Q (.inl (some (pI (nI (cKept (m.1 r) E P D G))))) m c n) : Wq g (d + 2) MX1_pupilsNotKeptTo c n 0 [some (pO 0 r 0), some (pI (nI G)), some (pI (nI D))] [] m Q := by
  refine sgX1_pupilsNotKeptTo ?_
  refine Wq.up (S := Unit) P (fun i _ => [some (pO 0 r 0), some (pI (nI G)), some (pI (nI D)), some (pI (nI (cN (fun p => (decide (m.1 r 4 p 0 = 0) || decide (m.1 r 4 p 0 = 1)) && (cCome (m.1 r) p D && cOut (m.1 r) E p G)) i))), some (pI (nI i)), none, none]) (fun _ _ => m) (fun i _ => True) (fun _ hI => ?_) (fun i _ hi hI ih => ?_) 0 () (by omega) trivial
  · exact sgX1_pupilsNotKeptTo_5 ⟨fun _ => h, fun q => absurd (by rw [hP]; exact geL (Nat.le_refl P) (by omega)) q⟩
  · have := ih () trivial
    have hi12 : vp_in (nI i) 12 := vp_in_nI (show i < 12 by omega) (by decide)
    have no : ¬ ((decide (m.1 r 4 i 0 = 0) || decide (m.1 r 4 i 0 = 1)) && (cCome (m.1 r) i D && cOut (m.1 r) E i G)) = true → Wq g (d + 2) MX1_pupilsNotKeptTo c n 5 [some (pO 0 r 0), some (pI (nI G)), some (pI (nI D)), some (pI (nI (cN (fun p => (decide (m.1 r 4 p 0 = 0) || decide (m.1 r 4 p 0 = 1)) && (cCome (m.1 r) p D && cOut (m.1 r) E p G)) i))), some (pI (nI i + 1)), none, none] [] m Q := fun hc => by
      rw [nI_1]
      rw [cN, if_neg hc] at this
      exact this
    have yes : ((decide (m.1 r 4 i 0 = 0) || decide (m.1 r 4 i 0 = 1)) && (cCome (m.1 r) i D && cOut (m.1 r) E i G)) = true → Wq g (d + 2) MX1_pupilsNotKeptTo c n 5 [some (pO 0 r 0), some (pI (nI G)), some (pI (nI D)), some (pI (nI (cN (fun p => (decide (m.1 r 4 p 0 = 0) || decide (m.1 r 4 p 0 = 1)) && (cCome (m.1 r) p D && cOut (m.1 r) E p G)) i) + 1)), some (pI (nI i + 1)), none, none] [] m Q := fun hc => by
      rw [nI_1, nI_1]
      rw [cN, if_pos hc] at this
      exact this
    have tail : (m.1 r 4 i 0 = 0 ∨ m.1 r 4 i 0 = 1) → cCome (m.1 r) i D = true → Wp g (d + 1) MX1_mayMeetOutside 0 [some (pO 0 r 0), some (pI (nI i)), some (pI (nI G))] [] m (cI fun r4 m5 => ((r4 = 0 → Wq g (d + 2) MX1_pupilsNotKeptTo c n 5 [some (pO 0 r 0), some (pI (nI G)), some (pI (nI D)), some (pI (nI (cN (fun p => (decide (m.1 r 4 p 0 = 0) || decide (m.1 r 4 p 0 = 1)) && (cCome (m.1 r) p D && cOut (m.1 r) E p G)) i))), some (pI (nI i + 1)), none, none] [] m5 Q) ∧ (¬ r4 = 0 → Wq g (d + 2) MX1_pupilsNotKeptTo c n 5 [some (pO 0 r 0), some (pI (nI G)), some (pI (nI D)), some (pI (nI (cN (fun p => (decide (m.1 r 4 p 0 = 0) || decide (m.1 r 4 p 0 = 1)) && (cCome (m.1 r) p D && cOut (m.1 r) E p G)) i) + 1)), some (pI (nI i + 1)), none, none] [] m5 Q))) := fun hs hc => by
      refine co_mayMeetOutside hE hE4 (show i < 12 by omega) hG ⟨rfl, rfl, fun q => no ?_, fun q => yes ?_⟩
      · intro z
        simp only [Bool.and_eq_true] at z
        rw [if_pos z.2.2] at q
        exact absurd q (by decide)
      · simp only [Bool.and_eq_true, Bool.or_eq_true, decide_eq_true_eq]
        refine ⟨hs, hc, ?_⟩
        by_cases ho : cOut (m.1 r) E i G = true
        · exact ho
        · rw [if_neg ho] at q; exact absurd rfl q
    refine sgX1_pupilsNotKeptTo_5 ⟨fun q => absurd (by rw [← hP]; exact q) (ngeL hi (by omega)), fun _ => ⟨hi12, fun q => ⟨⟨hi12, trivial⟩, fun q2 => no ?_, fun q2 => tail (Or.inl ?_) ?_⟩, fun q => ⟨fun q1 => no ?_, fun q1 => ⟨⟨hi12, trivial⟩, fun q2 => no ?_, fun q2 => tail (Or.inr ?_) ?_⟩⟩⟩⟩
    all_goals simp only [ixn (show i < 2 ^ 31 by omega)] at *
    · simp only [cCome, Bool.and_eq_true, decide_eq_true_eq]
      exact fun z => q2 z.2.1
    · exact q
    · simp only [cCome, decide_eq_true_eq]; exact q2
    · simp [q, q1]
    · simp only [cCome, Bool.and_eq_true, decide_eq_true_eq]
      exact fun z => q2 z.2.1
    · exact q1
    · simp only [cCome, decide_eq_true_eq]; exact q2
theorem cMost_le (τ : Nat → Nat → Nat → Int32) (E P D : Nat) : ∀ k, cMost τ E P D k ≤ 12
  | 0 => Nat.le_refl 12
  | k + 1 => by
    have := cMost_le τ E P D k
    rw [cMost]
    split <;> omega
theorem co_mostWithSlotsOf {E P D : Nat} (hE : m.1 r 0 0 1 = nI E) (hE4 : E ≤ 4) (hP : m.1 r 0 0 2 = nI P) (hP12 : P ≤ 12) (hD : D < 10) (h : Q (.inl (some (pI (nI (cMost (m.1 r) E P D 16))))) m c n) : Wq g (d + 3) MX1_mostWithSlotsOf c n 0 [some (pO 0 r 0), some (pI (nI D))] [] m Q := by
  refine sgX1_mostWithSlotsOf ?_
  refine Wq.up (S := Unit) 16 (fun i _ => [some (pO 0 r 0), some (pI (nI D)), some (pI (nI (cMost (m.1 r) E P D i))), some (pI (nI i)), none]) (fun _ _ => m) (fun i _ => True) (fun _ hI => ?_) (fun i _ hi hI ih => ?_) 0 () (by omega) trivial
  · exact sgX1_mostWithSlotsOf_5 ⟨fun _ => h, fun q => absurd (geL (Nat.le_refl 16) (by decide)) q⟩
  · refine sgX1_mostWithSlotsOf_5 ⟨fun q => absurd q (ngeL hi (by decide)), fun _ => ?_⟩
    refine co_freeSlotsOfGroup hi hD ⟨rfl, rfl, ?_⟩
    refine co_pupilsNotKeptTo hE hE4 hP hP12 hi ⟨rfl, rfl, ?_⟩
    have := ih () trivial
    have h1 : cFreeG (m.1 r) D i ≤ 16 := cN_le _ 16
    have h2 : cKept (m.1 r) E P D i ≤ P := cN_le _ P
    have h3 := cMost_le (m.1 r) E P D i
    have e : (if nI (cFreeG (m.1 r) D i) + nI (cKept (m.1 r) E P D i) < nI (cMost (m.1 r) E P D i) then nI (cFreeG (m.1 r) D i) + nI (cKept (m.1 r) E P D i) else nI (cMost (m.1 r) E P D i)) = nI (cMost (m.1 r) E P D (i + 1)) := by
      rw [nI_add, cMost]
      by_cases q : cFreeG (m.1 r) D i + cKept (m.1 r) E P D i < cMost (m.1 r) E P D i
      · rw [if_pos ((nI_ltI (by omega) (by omega)).mpr q), if_pos q]
      · rw [if_neg (fun z => q ((nI_ltI (by omega) (by omega)).mp z)), if_neg q]
    show Wq g (d + 3) MX1_mostWithSlotsOf c n 5 [some (pO 0 r 0), some (pI (nI D)), some (pI (if nI (cFreeG (m.1 r) D i) + nI (cKept (m.1 r) E P D i) < nI (cMost (m.1 r) E P D i) then nI (cFreeG (m.1 r) D i) + nI (cKept (m.1 r) E P D i) else nI (cMost (m.1 r) E P D i))), some (pI (nI i + 1)), none] [] m Q
    rw [e, nI_1]
    exact this
theorem co_leastUsedRouteBut {e : Nat} {av : Int32} (h : Q (.inl (some (pI (nI (cRoute (m.1 r 6 e) av))))) m c n) : Wq g d MX0_leastUsedRouteBut c n 0 [some (pO 5 r e), some (pI av)] [] m Q := by
  have K : ∀ k i b, i + k = 4 → b < 4 → Q (.inl (some (pI (nI (cLeast (m.1 r 6 e) av k i b))))) m c n → Wq g d MX0_leastUsedRouteBut c n 14 [some (pO 5 r e), some (pI av), some (pI (nI b)), some (pI (nI i))] [] m Q := by
    intro k
    induction k with
    | zero =>
      intro i b hi hb hQ
      have ei : i = 4 := by omega
      subst ei
      exact sgX0_leastUsedRouteBut_14 ⟨fun _ => hQ, fun q => absurd (geL (Nat.le_refl 4) (by decide)) q⟩
    | succ k ih =>
      intro i b hi hb hQ
      have hi4 : i < 4 := by omega
      refine sgX0_leastUsedRouteBut_14 ⟨fun q => absurd q (ngeL hi4 (by decide)), fun _ => ⟨fun q => ?_, fun q => ⟨vp_in_nI hi4 (by decide), vp_in_nI hb (by decide), fun q2 => ?_, fun q2 => ?_⟩⟩⟩
      · rw [nI_1]
        rw [cLeast, if_pos q] at hQ
        exact ih (i + 1) b (by omega) hb hQ
      · rw [ixn (by omega), ixn (by omega)] at q2
        rw [nI_1]
        rw [cLeast, if_neg q, if_pos q2] at hQ
        exact ih (i + 1) b (by omega) hb hQ
      · rw [ixn (by omega), ixn (by omega)] at q2
        rw [nI_1]
        rw [cLeast, if_neg q, if_neg q2] at hQ
        exact ih (i + 1) i (by omega) hi4 hQ
  refine sgX0_leastUsedRouteBut ⟨fun q => ?_, fun q => ?_⟩
  · rw [cRoute, if_neg q] at h
    exact K 3 1 0 rfl (by decide) h
  · rw [cRoute, if_pos q] at h
    exact K 2 2 1 rfl (by decide) h
theorem co_routeFor {e p : Nat} (he : e < 4) (hp : p < 12) (h : Q (.inl (some (pI (nI (cRoute (m.1 r 6 e) (m.1 r 4 p 3)))))) m c n) : Wq g (d + 1) MX1_routeFor c n 0 [some (pO 0 r 0), some (pI (nI p)), some (pI (nI e))] [] m Q := by
  refine sgX1_routeFor ⟨vp_in_nI he (by decide), vp_in_nI hp (by decide), ?_⟩
  rw [ixn (by omega), ixn (by omega)]
  exact co_leastUsedRouteBut ⟨rfl, rfl, h⟩
end O1
