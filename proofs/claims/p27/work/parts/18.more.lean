/-! TWO RULES MORE -/
section MO
variable {g : GG} {d : Nat} {M : MD} {c n pc : Nat} {ls : List (Option PV)} {st : List PV} {m : PM} {Q : Ou → PM → Nat → Nat → Prop}
theorem Wq.ior {x y : Int32} (hd : decode M.2.1 pc = .ok (.ior, 1))  (q : Wq g d M c n (pc + 1) ls (pI (x ||| y) :: st) m Q) : Wq g d M c n pc ls (pI y :: pI x :: st) m Q := by
  intro p e R s mm args below meth cd H locs L QQ F hf hl hr hw hL hst hls hS hk
  refine lv_ior F.1 F.2.1 hd ?_
  exact q p e R s mm args below meth cd H locs L QQ F hf hl hr hw hL ⟨trivial, hst.2.2⟩ hls hS hk
theorem Wq.ishl {x y : Int32} (hd : decode M.2.1 pc = .ok (.ishl, 1))  (q : Wq g d M c n (pc + 1) ls (pI (x <<< (y &&& 31)) :: st) m Q) : Wq g d M c n pc ls (pI y :: pI x :: st) m Q := by
  intro p e R s mm args below meth cd H locs L QQ F hf hl hr hw hL hst hls hS hk
  refine lv_ishl F.1 F.2.1 hd ?_
  exact q p e R s mm args below meth cd H locs L QQ F hf hl hr hw hL ⟨trivial, hst.2.2⟩ hls hS hk
end MO
