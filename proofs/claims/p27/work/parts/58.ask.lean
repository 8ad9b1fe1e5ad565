/-! THE LAW: is it so with who asks -/
section AS
variable {g : GG} {d : Nat} {c n : Nat} {m : PM} {Q : Ou → PM → Nat → Nat → Prop} {K E P D S : Nat}
theorem co_askSo {p : Nat} {x1 : Int32} (hO : Ok K E P D S m) (hK : K + 3 < 2 ^ 31) (hx : x1 = nI p) (hp : p < P) (h : ∀ M S', Ok K E P D S' M → Q (.inl (some (pI 1))) M c n) : Wq g (d + 7) ML_isAskSo c n 0 [some (pO 10 8 0), some (pI x1)] [] m Q := by
  have hP := hO.1.P12
  have hW := hO.1
  subst hx
  refine sgL_isAskSo ?_
  refine ct_pupil hO rfl hp (w := 0) rfl (by decide) (v := m.1 0 4 p 0) rfl ⟨fun s0 => ?_, fun _ => h m S hO⟩
  refine ct_pupil hO rfl hp (w := 10) rfl (by decide) (v := m.1 0 4 p 7) rfl ?_
  refine ct_ask hO hK rfl hp s0 fun m1 hO1 a1 w1 => ?_
  generalize hτ : m.1 0 = τ at *
  have f7 : m1.1 0 4 p 7 = τ 4 p 7 + τ 1 0 3 := by rw [a1 4 (by decide)]; exact ask_k.1
  have f8 : m1.1 0 4 p 8 = τ 1 0 3 := by rw [a1 4 (by decide)]; exact ask_k.2
  have f1 : m1.1 0 1 = τ 1 := by rw [a1 1 (by decide)]; exact ask_1
  have s12 : m1.1 0 4 p 0 = 1 ∨ m1.1 0 4 p 0 = 2 := by rw [a1 4 (by decide)]; exact give_12 ask_s
  have hI0 : Iv (K + 1) E P (fAsk0 τ p) := fAsk0_Iv hW.1.1 hp (by omega) s0
  have hno : cCell (m1.1 0) (nI p) = none → fnd (cCan (m1.1 0) p) 160 0 = none := fun z => by
    rw [cCell_ap a1] at z
    rw [cCan_ap a1]
    exact give_wait hI0.dw hP hp ask_s z
  have k140 : ∀ M v, Ok K E P D v M → Cp (M.1 0) τ → v ≤ 6 → Wq g (d + 7) ML_isAskSo c n 140 [some (pO 10 8 0), some (pI (nI p)), some (pI (τ 4 p 7)), none, some (pI 1), none, some (pI (nI v))] [] M Q := fun M v hOM cM hv => by
    refine sgL_isAskSo_140 ⟨fun q => absurd q (by decide), fun _ => ⟨fun q => absurd q (nI_pos (by omega)), fun _ => ?_⟩⟩
    exact ct_pupil hOM rfl hp (w := 10) rfl (by decide) (v := τ 4 p 7) (cM.2.2.2.1 p (by omega) 7 (by decide)) ⟨fun q => absurd rfl q, fun _ => h M v hOM⟩
  refine sgL_isAskSo_25 ?_
  refine ct_pupil hO1 rfl hp (w := 5) rfl (by decide) (v := cDay (cCell (m1.1 0) (nI p))) (tell_day _) ⟨fun q => absurd rfl q, fun _ => ?_⟩
  refine ct_pupil hO1 rfl hp (w := 10) rfl (by decide) (v := τ 4 p 7 + τ 1 0 3) f7 ?_
  refine ct_setting (k := 3) rfl (by decide) (v := τ 1 0 3) (by rw [f1]) ⟨fun q => absurd rfl q, fun _ => ?_⟩
  have k73 : Wq g (d + 7) ML_isAskSo c n 73 [some (pO 10 8 0), some (pI (nI p)), some (pI (τ 4 p 7)), some (pI (cDay (cCell (m1.1 0) (nI p)))), some (pI 1), none, none] [] m1 Q := by
    refine sgL_isAskSo_73 (ct_quit hO1 rfl hp s12 fun m2 hO2 a2 w2 => ?_)
    have t1 : m2.1 0 1 = τ 1 := by rw [a2 1 (by decide), quit_1, f1]
    have t0 : m2.1 0 4 p 0 = 0 := by rw [a2 4 (by decide)]; exact quit_s hO1.1.1.1 hp
    have k128 : Wq g (d + 7) ML_isAskSo c n 128 [some (pO 10 8 0), some (pI (nI p)), some (pI (τ 4 p 7)), none, some (pI 1), none, none] [] m2 Q := by
      refine sgL_isAskSo_128 (ct_undo hO2 w2.1 hO1.1 fun m3 hO3 c3 z3 => ?_)
      refine ct_undo hO3 (z3 _ (w2.2 _ w1.1)) (by rw [hτ]; exact hW) fun m4 hO4 c4 _ => ?_
      rw [hτ] at c4
      exact k140 m4 _ hO4 c4 (by omega)
    refine sgL_isAskSo_80 ⟨fun q => absurd q (by decide), fun _ => ?_⟩
    unfold cBack
    cases ec : cCell (m1.1 0) (nI p) with
    | none =>
      refine ⟨fun _ => ?_, fun q => absurd (by decide) q⟩
      refine ct_setting (k := 3) rfl (by decide) (v := τ 1 0 3) (by rw [t1]) ⟨fun q => absurd f8 q, fun _ => ?_⟩
      exact ct_pupil hO2 rfl hp (w := 0) rfl (by decide) (v := 0) t0 ⟨fun q => absurd rfl q, fun _ => k128⟩
    | some i =>
      have hi := cCell_lt ec
      refine ⟨fun q => absurd q (nI_pos (n := i / 16) (by omega)), fun _ => ?_⟩
      refine ct_setting (k := 2) rfl (by decide) (v := τ 1 0 2) (by rw [t1]) ⟨fun q => ?_, fun q => ?_⟩
      · refine ct_setting (k := 3) rfl (by decide) (v := τ 1 0 3) (by rw [t1]) ⟨fun q2 => absurd ?_ q2, fun _ => ?_⟩
        · show (if m1.1 0 1 0 2 ≤ nI (i / 16) then m1.1 0 4 p 8 else 0) = _
          rw [f1, if_pos (show τ 1 0 2 ≤ nI (i / 16) from q)]
          exact f8
        · exact ct_pupil hO2 rfl hp (w := 0) rfl (by decide) (v := 0) t0 ⟨fun q => absurd rfl q, fun _ => k128⟩
      · refine ⟨fun q2 => absurd ?_ q2, fun _ => ?_⟩
        · show (if m1.1 0 1 0 2 ≤ nI (i / 16) then m1.1 0 4 p 8 else 0) = _
          rw [f1, if_neg (show ¬ τ 1 0 2 ≤ nI (i / 16) from q)]
        · exact ct_pupil hO2 rfl hp (w := 0) rfl (by decide) (v := 0) t0 ⟨fun q => absurd rfl q, fun _ => k128⟩
  refine ⟨fun _ => k73, fun q => ?_⟩
  refine ct_earliest hO1 rfl hp (w := 0) rfl (by decide) (v := -1) ?_ ⟨fun q => absurd rfl q, fun _ => k73⟩
  rw [hno ?_]
  · rfl
  · cases ec : cCell (m1.1 0) (nI p) with
    | none => rfl
    | some i =>
      have hi := cCell_lt ec
      rw [ec] at q
      exact absurd (show (0 : Int32) ≤ nI (i / 16) from nI_le (a := 0) (Nat.zero_le _) (by omega)) q
end AS
