/-! THE LAW'S CALLS, where what is asked for is there -/
def Ok (K E P D S : Nat) (m : PM) : Prop := Ww K E P D (m.1 0) ∧ RF m ∧ m.1 8 10 0 3 = nI S ∧ S ≤ 6
section CT
variable {g : GG} {d : Nat} {m : PM} {K E P D S : Nat} {f : Int32 → PM → Prop}
theorem Ok_1 {τ1 : Nat → Nat → Nat → Int32} (h : Ok K E P D S m) : Ok K E P D S (rset m 1 τ1) := by
  unfold Ok RF at *
  rw [rset_n (show 0 ≠ 1 by decide), rset_n (show 8 ≠ 1 by decide)]
  exact h
theorem ct_count {x v : Int32} {w : Nat} (hO : Ok K E P D S m) (hx : x = nI w) (hw : w ≤ 14) (hv : cCnt E P S (m.1 0) w = v) (h : f v m) : Wp g (d + 6) MX4_count 0 [some (pO 10 8 0), some (pI x)] [] m (cI f) := by
  refine co_count hO.1.1 hO.2.2.1 (fun q => absurd ⟨w, hw, hx⟩ q) (fun w' hw' e => ⟨rfl, rfl, ?_⟩)
  have : w' = w := nI_i (by omega) (by omega) (e.symm.trans hx)
  subst this
  rw [hv]
  exact h
theorem ct_pupil {x y v : Int32} {p w : Nat} (hO : Ok K E P D S m) (hx : x = nI p) (hp : p < P) (hy : y = nI w) (hw : w ≤ 10) (hv : cPup P (m.1 0) p w = v) (h : f v m) : Wp g (d + 6) MX4_pupil 0 [some (pO 10 8 0), some (pI x), some (pI y)] [] m (cI f) := by
  have hP := hO.1.P12
  refine co_pupil hO.1.1 (fun q => absurd ⟨p, hp, hx⟩ q) (fun _ _ _ q => absurd ⟨w, hw, hy⟩ q) (fun p' w' hp' e hw' e' => ⟨rfl, rfl, ?_⟩)
  have : p' = p := nI_i (by omega) (by omega) (e.symm.trans hx)
  subst this
  have : w' = w := nI_i (by omega) (by omega) (e'.symm.trans hy)
  subst this
  rw [hv]
  exact h
theorem ct_examiner {x y v : Int32} {p w : Nat} (hO : Ok K E P D S m) (hx : x = nI p) (hp : p < E) (hy : y = nI w) (hw : w ≤ 8) (hv : cExa (m.1 0) p w = v) (h : f v m) : Wp g (d + 6) MX4_examiner 0 [some (pO 10 8 0), some (pI x), some (pI y)] [] m (cI f) := by
  have hE := hO.1.E4
  refine co_examiner hO.1.1 (fun q => absurd ⟨p, hp, hx⟩ q) (fun _ _ _ q => absurd ⟨w, hw, hy⟩ q) (fun p' w' hp' e hw' e' => ⟨rfl, rfl, ?_⟩)
  have : p' = p := nI_i (by omega) (by omega) (e.symm.trans hx)
  subst this
  have : w' = w := nI_i (by omega) (by omega) (e'.symm.trans hy)
  subst this
  rw [hv]
  exact h
theorem ct_slot {x y z v : Int32} {e b k : Nat} (hO : Ok K E P D S m) (hx : x = nI e) (he : e < E) (hy : y = nI b) (hb : b ≤ 9) (hz : z = nI k) (hk : k ≤ 3) (hv : m.1 0 2 0 (16 * b + 4 * k + e) = v) (h : f v m) : Wp g (d + 6) MX4_slot 0 [some (pO 10 8 0), some (pI x), some (pI y), some (pI z)] [] m (cI f) := by
  have hE := hO.1.E4
  refine co_slot hO.1.1 (fun q => absurd ⟨e, he, hx⟩ q) (fun _ _ _ q => absurd ⟨⟨b, hb, hy⟩, k, hk, hz⟩ q) (fun e' b' k' he' q1 hb' q2 hk' q3 => ⟨rfl, rfl, ?_⟩)
  have : e' = e := nI_i (by omega) (by omega) (q1.symm.trans hx)
  subst this
  have : b' = b := nI_i (by omega) (by omega) (q2.symm.trans hy)
  subst this
  have : k' = k := nI_i (by omega) (by omega) (q3.symm.trans hz)
  subst this
  rw [hv]
  exact h
theorem ct_setting {x v : Int32} {k : Nat} (hx : x = nI k) (hk : k ≤ 3) (hv : m.1 0 1 0 k = v) (h : f v m) : Wp g (d + 6) MX4_setting 0 [some (pO 10 8 0), some (pI x)] [] m (cI f) := by
  refine co_setting (fun q => absurd ⟨k, hk, hx⟩ q) (fun k' hk' e => ⟨rfl, rfl, ?_⟩)
  have : k' = k := nI_i (by omega) (by omega) (e.symm.trans hx)
  subst this
  rw [hv]
  exact h
theorem ct_earliest {x y v : Int32} {p w : Nat} (hO : Ok K E P D S m) (hx : x = nI p) (hp : p < P) (hy : y = nI w) (hw : w ≤ 2) (hv : cTell (fnd (cCan (m.1 0) p) 160 0) w = v) (h : f v m) : Wp g (d + 6) MX4_earliest 0 [some (pO 10 8 0), some (pI x), some (pI y)] [] m (cI f) := by
  have hP := hO.1.P12
  refine co_earliest hO.1.1 (fun q => absurd ⟨p, hp, hx⟩ q) (fun _ _ _ q => absurd ⟨w, hw, hy⟩ q) (fun p' w' hp' e hw' e' => ⟨rfl, rfl, ?_⟩)
  have : p' = p := nI_i (by omega) (by omega) (e.symm.trans hx)
  subst this
  have : w' = w := nI_i (by omega) (by omega) (e'.symm.trans hy)
  subst this
  rw [hv]
  exact h
theorem ct_ifTested {x y v : Int32} {p e : Nat} (hO : Ok K E P D S m) (hx : x = nI p) (hp : p < P) (hy : y = nI e) (he : e < E) (hv : nI (cRoute (m.1 0 6 e) (m.1 0 4 p 3)) = v) (h : f v m) : Wp g (d + 6) MX4_ifTested 0 [some (pO 10 8 0), some (pI x), some (pI y)] [] m (cI f) := by
  have hP := hO.1.P12
  have hE := hO.1.E4
  refine co_ifTested hO.1.1 (fun q => absurd ⟨⟨p, hp, hx⟩, e, he, hy⟩ q) (fun p' e' hp' q1 he' q2 => ⟨rfl, rfl, ?_⟩)
  have : p' = p := nI_i (by omega) (by omega) (q1.symm.trans hx)
  subst this
  have : e' = e := nI_i (by omega) (by omega) (q2.symm.trans hy)
  subst this
  rw [hv]
  exact h
theorem ct_couldHave {x : Int32} {b : Nat} (hO : Ok K E P D S m) (hx : x = nI b) (hb : b ≤ 9) (h : f (nI (cMost (m.1 0) E P b 16)) m) : Wp g (d + 6) MX4_couldHave 0 [some (pO 10 8 0), some (pI x)] [] m (cI f) := by
  refine co_couldHave hO.1.1 (fun q => absurd ⟨b, hb, hx⟩ q) (fun b' hb' e => ⟨rfl, rfl, ?_⟩)
  have : b' = b := nI_i (by omega) (by omega) (e.symm.trans hx)
  subst this
  exact h
theorem ct_ifCancelled {x y z : Int32} {e b w : Nat} (hO : Ok K E P D S m) (hK : K + 3 < 2 ^ 31) (hx : x = nI e) (he : e < E) (hy : y = nI b) (hb : b ≤ 9) (hz : z = nI w) (hw : w ≤ 2) (h : ∀ τ1, f (cIf P (m.1 0) e b w) (rset m 1 τ1)) : Wp g (d + 6) MX4_ifCancelled 0 [some (pO 10 8 0), some (pI x), some (pI y), some (pI z)] [] m (cI f) := by
  have hE := hO.1.E4
  refine co_ifCancelled hO.1.1 hK (fun q => absurd ⟨e, he, hx⟩ q) (fun _ _ _ q => absurd ⟨⟨b, hb, hy⟩, w, hw, hz⟩ q) (fun e' b' w' he' q1 hb' q2 hw' q3 τ1 => ⟨rfl, rfl, ?_⟩)
  have : e' = e := nI_i (by omega) (by omega) (q1.symm.trans hx)
  subst this
  have : b' = b := nI_i (by omega) (by omega) (q2.symm.trans hy)
  subst this
  have : w' = w := nI_i (by omega) (by omega) (q3.symm.trans hz)
  subst this
  exact h τ1
theorem Ok.c1 (h : Ok K E P D S m) : cCnt E P S (m.1 0) 1 = nI E := h.1.1.1.hE
theorem Ok.c2 (h : Ok K E P D S m) : cCnt E P S (m.1 0) 2 = nI P := h.1.1.1.hP
theorem i_or0 (x : Int32) : x ||| 0 = x := by
  apply Int32.toBitVec_inj.mp
  rw [Int32.toBitVec_or]
  show x.toBitVec ||| 0#32 = x.toBitVec
  exact BitVec.or_zero
end CT
