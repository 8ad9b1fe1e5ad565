/-! THE OFFICE, what only reads -/
section O1
variable {g : GG} {d : Nat} {c n : Nat} {m : PM} {Q : Ou → PM → Nat → Nat → Prop} {r : Nat}
theorem co_cellOf {x1 : Int32} (h : Q (.inl (some (pI (oI (fnd (fun i => decide (m.1 r 2 0 i = x1)) 160 0))))) m c n) : Wq g d MX1_cellOf c n 0 [some (pO 0 r 0), some (pI x1)] [] m Q := by
  refine sgX1_cellOf ?_
  refine Wq.up (S := Unit) 160 (fun i _ => [some (pO 0 r 0), some (pI x1), some (pI (nI i))]) (fun _ _ => m) (fun i _ => Q (.inl (some (pI (oI (fnd (fun i => decide (m.1 r 2 0 i = x1)) (160 - i) i))))) m c n) (fun _ hI => ?_) (fun i _ hi hI ih => ?_) 0 () (by omega) h
  · exact sgX1_cellOf_2 ⟨fun _ => hI, fun q => absurd (geL (Nat.le_refl 160) (by decide)) q⟩
  · refine sgX1_cellOf_2 ⟨fun q => absurd q (ngeL hi (by decide)), fun _ => ⟨vp_in_nI hi (by decide), fun q => ?_, fun q => ?_⟩⟩
    · rw [ixn (by omega)] at q
      rw [nI_1]
      refine ih () ?_
      rw [show 160 - i = (160 - (i + 1)) + 1 by omega, fnd, if_neg (by simpa using q)] at hI
      exact hI
    · rw [ixn (by omega)] at q
      rw [show 160 - i = (160 - (i + 1)) + 1 by omega, fnd, if_pos (by simpa using q)] at hI
      exact hI
theorem co_pupilsWho {x1 : Int32} {P : Nat} (hP : m.1 r 0 0 2 = nI P) (hP12 : P ≤ 12) (h : Q (.inl (some (pI (nI (cN (fun p => decide (m.1 r 4 p 0 = x1)) P))))) m c n) : Wq g d MX1_pupilsWho c n 0 [some (pO 0 r 0), some (pI x1)] [] m Q := by
  refine sgX1_pupilsWho ?_
  refine Wq.up (S := Unit) P (fun i _ => [some (pO 0 r 0), some (pI x1), some (pI (nI (cN (fun p => decide (m.1 r 4 p 0 = x1)) i))), some (pI (nI i))]) (fun _ _ => m) (fun i _ => True) (fun _ hI => ?_) (fun i _ hi hI ih => ?_) 0 () (by omega) trivial
  · exact sgX1_pupilsWho_4 ⟨fun _ => h, fun q => absurd (by rw [hP]; exact geL (Nat.le_refl P) (by omega)) q⟩
  · refine sgX1_pupilsWho_4 ⟨fun q => absurd (by rw [← hP]; exact q) (ngeL hi (by omega)), fun _ => ⟨vp_in_nI (show i < 12 by omega) (by decide), fun q => ?_, fun q => ?_⟩⟩
    · rw [ixn (by omega)] at q
      have := ih () trivial
      rw [cN, if_neg (by simpa using q)] at this
      rw [nI_1]
      exact this
    · rw [ixn (by omega)] at q
      have := ih () trivial
      rw [cN, if_pos (by simpa using q)] at this
      rw [nI_1, nI_1]
      exact this
theorem co_moneyTaken {P : Nat} (hP : m.1 r 0 0 2 = nI P) (hP12 : P ≤ 12) (h : Q (.inl (some (pI (sI (fun p => m.1 r 4 p 7) P)))) m c n) : Wq g d MX1_moneyTaken c n 0 [some (pO 0 r 0)] [] m Q := by
  refine sgX1_moneyTaken ?_
  refine Wq.up (S := Unit) P (fun i _ => [some (pO 0 r 0), some (pI (sI (fun p => m.1 r 4 p 7) i)), some (pI (nI i))]) (fun _ _ => m) (fun i _ => True) (fun _ hI => ?_) (fun i _ hi hI ih => ?_) 0 () (by omega) trivial
  · exact sgX1_moneyTaken_4 ⟨fun _ => h, fun q => absurd (by rw [hP]; exact geL (Nat.le_refl P) (by omega)) q⟩
  · refine sgX1_moneyTaken_4 ⟨fun q => absurd (by rw [← hP]; exact q) (ngeL hi (by omega)), fun _ => ⟨vp_in_nI (show i < 12 by omega) (by decide), ?_⟩⟩
    rw [nI_1, ixn (by omega)]
    exact ih () trivial
end O1
