/-! THE LAW'S CALLS that write; the saved states, by their age -/
def Sd (S k : Nat) (m : PM) (σ : Nat → Nat → Nat → Int32) : Prop := k + 1 ≤ S ∧ Cp (sv m (S - 1 - k)) σ
def Aw (S : Nat) (m M : PM) : Prop := Sd (min (S + 1) 6) 0 M (m.1 0) ∧ ∀ σ, Sd S 0 m σ → Sd (min (S + 1) 6) 1 M σ
section WR
variable {g : GG} {d : Nat} {m m1 M : PM} {K E P D S K2 E2 P2 D2 : Nat} {f : Int32 → PM → Prop} {σ τ' : Nat → Nat → Nat → Int32}
theorem Cp_trans {a b c : Nat → Nat → Nat → Int32} (h : Cp a b) (k : Cp b c) : Cp a c := by
  obtain ⟨h0, h1, h2, h4, h5⟩ := h
  obtain ⟨k0, k1, k2, k4, k5⟩ := k
  exact ⟨fun i hi => (h0 i hi).trans (k0 i hi), fun i hi => (h1 i hi).trans (k1 i hi), fun i hi => (h2 i hi).trans (k2 i hi), fun p hp i hi => (h4 p hp i hi).trans (k4 p hp i hi), fun e he => ⟨(h5 e he).1.trans (k5 e he).1, (h5 e he).2.1.trans (k5 e he).2.1, fun i hi => ((h5 e he).2.2 i hi).trans ((k5 e he).2.2 i hi)⟩⟩
theorem sv_rset (hR : RF m) {i : Nat} (hi : i < 6) : sv (rset m 0 τ') i = sv m i := by
  unfold sv
  rw [rset_n (show 8 ≠ 0 by decide)]
  have := (hR.1 i hi).1
  exact rset_n (by omega)
theorem RF_rset (hR : RF m) : RF (rset m 0 τ') := by
  unfold RF at *
  rw [rset_n (show 8 ≠ 0 by decide)]
  exact hR
theorem Aw_of (h : SvE S m m1) (hS : S ≤ 6) : Aw S m (rset m1 0 τ') := by
  obtain ⟨hR, -, -, -, -, sA, sB⟩ := h
  by_cases c6 : S = 6
  · obtain ⟨b1, b2⟩ := sB c6
    refine ⟨⟨by omega, ?_⟩, fun σ hs => ⟨by omega, ?_⟩⟩
    · rw [show min (S + 1) 6 - 1 - 0 = 5 by omega, sv_rset hR (by decide)]
      exact b2
    · rw [show min (S + 1) 6 - 1 - 1 = 4 by omega, sv_rset hR (by decide), b1 4 (by decide)]
      have := hs.2
      rw [show S - 1 - 0 = 4 + 1 by omega] at this
      exact this
  · obtain ⟨b1, b2⟩ := sA (by omega)
    refine ⟨⟨by omega, ?_⟩, fun σ hs => ?_⟩
    · rw [show min (S + 1) 6 - 1 - 0 = S by omega, sv_rset hR (by omega)]
      exact b2
    · obtain ⟨h1, h2⟩ := hs
      refine ⟨by omega, ?_⟩
      rw [show min (S + 1) 6 - 1 - 1 = S - 1 - 0 by omega, sv_rset hR (by omega), b1 _ (by omega)]
      exact h2
theorem Ok_of (h : SvE S m m1) (hW : Ww K E P D τ') : Ok K E P D (min (S + 1) 6) (rset m1 0 τ') := by
  refine ⟨by rw [rset_s]; exact hW, RF_rset h.1, ?_, Nat.min_le_right _ _⟩
  rw [rset_n (by decide)]
  exact h.2.2.2.2.1
theorem cN_id {p q : Nat} (hP : P ≤ 12) (hp : p < P) (hq : q < P) {x : Int32} (h : x = nI p) (k : x = nI q) : p = q := nI_i (by omega) (by omega) (h.symm.trans k)
theorem ct_addPupil (hO : Ok K E P D S m) (hP : P < 12) (h : ∀ M, Ok K E (P + 1) D (min (S + 1) 6) M → f (nI P) M) : Wp g (d + 6) MX4_addPupil 0 [some (pO 10 8 0)] [] m (cI f) := by
  refine co_addPupil hO.1.1 hO.2.1 hO.2.2.1 hO.2.2.2 (fun q => absurd hP (by omega)) (fun _ m1 sv => ⟨rfl, rfl, ?_⟩)
  exact h _ (Ok_of sv (Ww_addP hO.1 hP))
theorem ct_addExaminer (hO : Ok K E P D S m) (hE : E < 4) (h : ∀ M, Ok K (E + 1) P D (min (S + 1) 6) M → f (nI E) M) : Wp g (d + 6) MX4_addExaminer 0 [some (pO 10 8 0)] [] m (cI f) := by
  refine co_addExaminer hO.1.1 hO.2.1 hO.2.2.1 hO.2.2.2 (fun q => absurd hE (by omega)) (fun _ m1 τ' sv a => ⟨rfl, rfl, ?_⟩)
  exact h _ (Ok_of sv (Ww_ap a (Ww_addE hO.1 hE)))
theorem ct_ask {x : Int32} {p : Nat} (hO : Ok K E P D S m) (hK : K + 3 < 2 ^ 31) (hx : x = nI p) (hp : p < P) (hs : m.1 0 4 p 0 = 0) (h : ∀ M, Ok (K + 4) E P D (min (S + 1) 6) M → Ap (M.1 0) (give P (fAsk0 (m.1 0) p)) → Aw S m M → f (cDay (cCell (M.1 0) (nI p))) M) : Wp g (d + 6) MX4_ask 0 [some (pO 10 8 0), some (pI x)] [] m (cI f) := by
  have hP := hO.1.P12
  refine co_ask hO.1.1 hK hO.2.1 hO.2.2.1 hO.2.2.2 (fun q => absurd ⟨p, hp, hx⟩ q) (fun p' hp' e q => ?_) (fun p' hp' e _ m1 τ' sv a => ⟨rfl, rfl, ?_⟩)
  · have := cN_id hP hp hp' hx e
    subst this
    simp [oOk, hp, hs] at q
  · have := cN_id hP hp hp' hx e
    subst this
    have a' : Ap τ' (give P (fAsk0 (m.1 0) p)) := a
    have := h _ (Ok_of sv (Ww_ap a' (Ww_ask hO.1 hp hs hK))) (by rw [rset_s]; exact a') (Aw_of sv hO.2.2.2)
    rw [rset_s, cCell_ap a'] at this
    exact this
theorem ct_quit {x : Int32} {p : Nat} (hO : Ok K E P D S m) (hx : x = nI p) (hp : p < P) (hs : m.1 0 4 p 0 = 1 ∨ m.1 0 4 p 0 = 2) (h : ∀ M, Ok K E P D (min (S + 1) 6) M → Ap (M.1 0) (give P (fQuit0 (m.1 0) p)) → Aw S m M → f (cBack (m.1 0) p) M) : Wp g (d + 6) MX4_quit 0 [some (pO 10 8 0), some (pI x)] [] m (cI f) := by
  have hP := hO.1.P12
  refine co_quit hO.1.1 hO.2.1 hO.2.2.1 hO.2.2.2 (fun q => absurd ⟨p, hp, hx⟩ q) (fun p' hp' e q => ?_) (fun p' hp' e _ m1 τ' sv a => ⟨rfl, rfl, ?_⟩)
  · have := cN_id hP hp hp' hx e
    subst this
    have e1 : oOk E P (m.1 0) (1, p, 0) = decide (p < P ∧ (m.1 0 4 p 0 = 1 ∨ m.1 0 4 p 0 = 2)) := by simp [oOk]
    rw [e1, decide_eq_false_iff_not] at q
    exact absurd ⟨hp, hs⟩ q
  · have := cN_id hP hp hp' hx e
    subst this
    have a' : Ap τ' (give P (fQuit0 (m.1 0) p)) := a
    exact h _ (Ok_of sv (Ww_ap a' (Ww_quit hO.1 hp))) (by rw [rset_s]; exact a') (Aw_of sv hO.2.2.2)
theorem ct_cancel {x y : Int32} {e b : Nat} (hO : Ok K E P D S m) (hK : K + 3 < 2 ^ 31) (hx : x = nI e) (he : e < E) (hy : y = nI b) (hb : b ≤ 9) (h : ∀ M, Ok (K + 4) E P D (min (S + 1) 6) M → Ap (M.1 0) (give P (fCan0 P (m.1 0) e b)) → Aw S m M → f (nI (cMoved P (m.1 0) e b)) M) : Wp g (d + 6) MX4_cancel 0 [some (pO 10 8 0), some (pI x), some (pI y)] [] m (cI f) := by
  have hE := hO.1.E4
  refine co_cancel hO.1.1 hK hO.2.1 hO.2.2.1 hO.2.2.2 (fun q => absurd ⟨e, he, hx⟩ q) (fun _ _ _ q => absurd ⟨b, hb, hy⟩ q) (fun e' b' he' q1 hb' q2 m1 τ' sv a => ⟨rfl, rfl, ?_⟩)
  have : e' = e := nI_i (by omega) (by omega) (q1.symm.trans hx)
  subst this
  have : b' = b := nI_i (by omega) (by omega) (q2.symm.trans hy)
  subst this
  have a' : Ap τ' (give P (fCan0 P (m.1 0) e' b')) := a
  exact h _ (Ok_of sv (Ww_ap a' (Ww_can hO.1 he (by omega) hK))) (by rw [rset_s]; exact a') (Aw_of sv hO.2.2.2)
theorem ct_test {x y : Int32} {p i k : Nat} (hk : (k = 3 ∧ y = 0) ∨ (k = 2 ∧ ¬ y = 0)) (hO : Ok K E P D S m) (hx : x = nI p) (hp : p < P) (hc : cCell (m.1 0) (nI p) = some i) (hi : i < 16) (h : ∀ M, Ok (K + 4) E P D (min (S + 1) 6) M → M.1 0 4 p 3 = nI (cRoute (m.1 0 6 (i % 4)) (m.1 0 4 p 3)) → f (nI (cRoute (m.1 0 6 (i % 4)) (m.1 0 4 p 3))) M) : Wp g (d + 6) MX4_test 0 [some (pO 10 8 0), some (pI x), some (pI y)] [] m (cI f) := by
  have hP := hO.1.P12
  have e1 : oOk E P (m.1 0) (k, p, 0) = true := by
    have : oOk E P (m.1 0) (k, p, 0) = decide (p < P ∧ cDay (cCell (m.1 0) (nI p)) = 0) := by
      rcases hk with ⟨rfl, _⟩ | ⟨rfl, _⟩ <;> simp [oOk]
    rw [this, decide_eq_true_eq]
    refine ⟨hp, ?_⟩
    rw [hc]
    show nI (i / 16) = 0
    rw [show i / 16 = 0 by omega]
    rfl
  obtain ⟨_, ei⟩ := cCell_some hc
  refine co_test hk hO.1.1 hO.2.1 hO.2.2.1 hO.2.2.2 (fun q => absurd ⟨p, hp, hx⟩ q) (fun p' hp' e q => ?_) (fun p' hp' e _ m1 τ' sv a => ⟨rfl, rfl, ?_⟩)
  · have := cN_id hP hp hp' hx e
    subst this
    rw [e1] at q
    cases q
  · have := cN_id hP hp hp' hx e
    subst this
    have ea : oAns E P (m.1 0) (k, p, 0) = nI (cRoute (m.1 0 6 (i % 4)) (m.1 0 4 p 3)) := by
      rcases hk with ⟨rfl, _⟩ | ⟨rfl, _⟩ <;> simp [oAns, hc, cRt]
    rw [ea]
    rcases hk with ⟨rfl, _⟩ | ⟨rfl, _⟩
    · have a' : Ap τ' (fTestF (m.1 0) p i) := by simpa [oDo, hc] using a
      refine h _ (Ok_of sv (Ww_ap a' (Ww_testF hO.1 hp (by omega) ei))) ?_
      rw [rset_s, a' 4 (by decide)]
      unfold fTestF fTest1
      rw [tI_k (by decide), tI_k (by decide), tI_k (by decide), tI_k (by decide), tI_s]
      rfl
    · have a' : Ap τ' (fTestP (m.1 0) p i) := by simpa [oDo, hc] using a
      refine h _ (Ok_of sv (Ww_ap a' (Ww_testP hO.1 hp (by omega) ei))) ?_
      rw [rset_s, a' 4 (by decide)]
      unfold fTestP fTest1
      rw [tI_k (by decide), tI_t (by decide), tI_k (by decide), tI_s]
      rfl
theorem ct_next (hO : Ok K E P D S m) (hD : D < 9999) (h : ∀ M v, Ok K E P (D + 1) (min (S + 1) 6) M → f v M) : Wp g (d + 6) MX4_next 0 [some (pO 10 8 0)] [] m (cI f) := by
  have e1 : oOk E P (m.1 0) (5, 0, 0) = true := by
    have : oOk E P (m.1 0) (5, 0, 0) = decide (¬ 9999 ≤ m.1 0 0 0 0) := by simp [oOk]
    rw [this, decide_eq_true_eq, hO.1.2.2]
    exact ngeL (N := 9999) hD (by decide)
  refine co_next hO.1.1 hO.2.1 hO.2.2.1 hO.2.2.2 (fun q => ?_) (fun _ m1 τ' sv a => ⟨rfl, rfl, ?_⟩)
  · rw [e1] at q
    cases q
  · have a' : Ap τ' (give P (fGo0 E P (m.1 0))) := by simpa [oDo] using a
    exact h _ _ (Ok_of sv (Ww_ap a' (Ww_go hO.1 hD)))
theorem ct_set {x y : Int32} {k : Nat} (hO : Ok K E P D S m) (hx : x = nI k) (hk : k ≤ 3) (hy : (¬ y < 0) ∧ ¬ (([20, 1, 9, 999] : List Int32).getD k 0) < y) (h : ∀ M v, Ok K E P D (min (S + 1) 6) M → f v M) : Wp g (d + 6) MX4_set 0 [some (pO 10 8 0), some (pI x), some (pI y)] [] m (cI f) := by
  refine co_set hO.2.1 hO.2.2.1 hO.2.2.2 (fun q => absurd ⟨k, hk, hx⟩ q) (fun k' hk' e q => ?_) (fun k' hk' e _ m1 sv => ⟨rfl, rfl, ?_⟩)
  · have : k' = k := nI_i (by omega) (by omega) (e.symm.trans hx)
    subst this
    exact absurd hy q
  · exact h _ _ (Ok_of sv (Ww_set hO.1 hy.1))
theorem ct_undo (hO : Ok K E P D S m) (hs : Sd S 0 m σ) (hW : Ww K2 E2 P2 D2 σ) (h : ∀ M, Ok K2 E2 P2 D2 (S - 1) M → Cp (M.1 0) σ → (∀ σ', Sd S 1 m σ' → Sd (S - 1) 0 M σ') → f (nI (S - 1)) M) : Wp g (d + 6) MX4_undo 0 [some (pO 10 8 0)] [] m (cI f) := by
  have hS6 := hO.2.2.2
  have h1 := hs.1
  refine co_undo hO.2.1 hO.2.2.1 hS6 (fun q => by omega) (fun _ τ' hc => ⟨rfl, rfl, ?_⟩)
  have hcp : Cp τ' σ := Cp_trans hc hs.2
  have h11 : ∀ i, tI (m.1 8) 10 0 3 (nI (S - 1)) 11 0 i = m.1 8 11 0 i := fun i => by rw [tI_t (by decide)]
  have hR : RF (rset m 8 (tI (m.1 8) 10 0 3 (nI (S - 1)))) := by
    have := hO.2.1
    unfold RF at *
    rw [rset_s]
    simp only [h11]
    exact this
  have hsv : ∀ i, i < 6 → sv (rset (rset m 8 (tI (m.1 8) 10 0 3 (nI (S - 1)))) 0 τ') i = sv m i := fun i hi => by
    rw [sv_rset hR hi]
    unfold sv
    rw [rset_s, h11]
    have := hO.2.1.1 i hi
    exact rset_n (by omega)
  refine h _ ⟨by rw [rset_s]; exact Ww_cp hcp hW, RF_rset hR, ?_, by omega⟩ (by rw [rset_s]; exact hcp) (fun σ' hs' => ⟨by have := hs'.1; omega, ?_⟩)
  · rw [rset_n (by decide), rset_s, tI_s]
  · have := hs'.1
    rw [hsv _ (by omega)]
    have := hs'.2
    rw [show S - 1 - 1 - 0 = S - 1 - 1 by omega]
    exact this
end WR
