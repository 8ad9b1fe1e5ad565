theorem one_cat {g : GG} {v : PV} (h : two (some v) = false) : (pv g v).category = 1 := by
  rcases v with x | x | x | x
  · rfl
  · simp [two] at h
  · simp [two] at h
  · rfl
/-! THE RULES: an instruction, a rule -/
section RL
variable {g : GG} {d : Nat} {M : MD} {c n pc : Nat} {ls : List (Option PV)} {st : List PV} {m : PM} {Q : Ou → PM → Nat → Nat → Prop}
theorem Wq.iadd {x y : Int32} (hd : decode M.2.1 pc = .ok (.iadd, 1))  (q : Wq g d M c n (pc + 1) ls (pI (x + y) :: st) m Q) : Wq g d M c n pc ls (pI y :: pI x :: st) m Q := by
  intro p e R s mm args below meth cd H locs L QQ F hf hl hr hw hL hst hls hS hk
  refine lv_iadd F.1 F.2.1 hd ?_
  exact q p e R s mm args below meth cd H locs L QQ F hf hl hr hw hL ⟨trivial, hst.2.2⟩ hls hS hk
theorem Wq.isub {x y : Int32} (hd : decode M.2.1 pc = .ok (.isub, 1))  (q : Wq g d M c n (pc + 1) ls (pI (x - y) :: st) m Q) : Wq g d M c n pc ls (pI y :: pI x :: st) m Q := by
  intro p e R s mm args below meth cd H locs L QQ F hf hl hr hw hL hst hls hS hk
  refine lv_isub F.1 F.2.1 hd ?_
  exact q p e R s mm args below meth cd H locs L QQ F hf hl hr hw hL ⟨trivial, hst.2.2⟩ hls hS hk
theorem Wq.imul {x y : Int32} (hd : decode M.2.1 pc = .ok (.imul, 1))  (q : Wq g d M c n (pc + 1) ls (pI (x * y) :: st) m Q) : Wq g d M c n pc ls (pI y :: pI x :: st) m Q := by
  intro p e R s mm args below meth cd H locs L QQ F hf hl hr hw hL hst hls hS hk
  refine lv_imul F.1 F.2.1 hd ?_
  exact q p e R s mm args below meth cd H locs L QQ F hf hl hr hw hL ⟨trivial, hst.2.2⟩ hls hS hk
theorem Wq.iand {x y : Int32} (hd : decode M.2.1 pc = .ok (.iand, 1))  (q : Wq g d M c n (pc + 1) ls (pI (x &&& y) :: st) m Q) : Wq g d M c n pc ls (pI y :: pI x :: st) m Q := by
  intro p e R s mm args below meth cd H locs L QQ F hf hl hr hw hL hst hls hS hk
  refine lv_iand F.1 F.2.1 hd ?_
  exact q p e R s mm args below meth cd H locs L QQ F hf hl hr hw hL ⟨trivial, hst.2.2⟩ hls hS hk
theorem Wq.ishr {x y : Int32} (hd : decode M.2.1 pc = .ok (.ishr, 1))  (q : Wq g d M c n (pc + 1) ls (pI (x >>> (y &&& 31)) :: st) m Q) : Wq g d M c n pc ls (pI y :: pI x :: st) m Q := by
  intro p e R s mm args below meth cd H locs L QQ F hf hl hr hw hL hst hls hS hk
  refine lv_ishr F.1 F.2.1 hd ?_
  exact q p e R s mm args below meth cd H locs L QQ F hf hl hr hw hL ⟨trivial, hst.2.2⟩ hls hS hk
theorem Wq.idiv {x y : Int32} (hd : decode M.2.1 pc = .ok (.idiv, 1)) (hy : ¬ y = 0) (q : Wq g d M c n (pc + 1) ls (pI (x / y) :: st) m Q) : Wq g d M c n pc ls (pI y :: pI x :: st) m Q := by
  intro p e R s mm args below meth cd H locs L QQ F hf hl hr hw hL hst hls hS hk
  refine lv_idiv F.1 F.2.1 hd hy ?_
  exact q p e R s mm args below meth cd H locs L QQ F hf hl hr hw hL ⟨trivial, hst.2.2⟩ hls hS hk
theorem Wq.irem {x y : Int32} (hd : decode M.2.1 pc = .ok (.irem, 1)) (hy : ¬ y = 0) (q : Wq g d M c n (pc + 1) ls (pI (x - x / y * y) :: st) m Q) : Wq g d M c n pc ls (pI y :: pI x :: st) m Q := by
  intro p e R s mm args below meth cd H locs L QQ F hf hl hr hw hL hst hls hS hk
  refine lv_irem F.1 F.2.1 hd hy ?_
  exact q p e R s mm args below meth cd H locs L QQ F hf hl hr hw hL ⟨trivial, hst.2.2⟩ hls hS hk
theorem Wq.ladd {x y : Int64} (hd : decode M.2.1 pc = .ok (.ladd, 1))  (q : Wq g d M c n (pc + 1) ls (pL (x + y) :: st) m Q) : Wq g d M c n pc ls (pL y :: pL x :: st) m Q := by
  intro p e R s mm args below meth cd H locs L QQ F hf hl hr hw hL hst hls hS hk
  refine lv_ladd F.1 F.2.1 hd ?_
  exact q p e R s mm args below meth cd H locs L QQ F hf hl hr hw hL ⟨trivial, hst.2.2⟩ hls hS hk
theorem Wq.lsub {x y : Int64} (hd : decode M.2.1 pc = .ok (.lsub, 1))  (q : Wq g d M c n (pc + 1) ls (pL (x - y) :: st) m Q) : Wq g d M c n pc ls (pL y :: pL x :: st) m Q := by
  intro p e R s mm args below meth cd H locs L QQ F hf hl hr hw hL hst hls hS hk
  refine lv_lsub F.1 F.2.1 hd ?_
  exact q p e R s mm args below meth cd H locs L QQ F hf hl hr hw hL ⟨trivial, hst.2.2⟩ hls hS hk
theorem Wq.lmul {x y : Int64} (hd : decode M.2.1 pc = .ok (.lmul, 1))  (q : Wq g d M c n (pc + 1) ls (pL (x * y) :: st) m Q) : Wq g d M c n pc ls (pL y :: pL x :: st) m Q := by
  intro p e R s mm args below meth cd H locs L QQ F hf hl hr hw hL hst hls hS hk
  refine lv_lmul F.1 F.2.1 hd ?_
  exact q p e R s mm args below meth cd H locs L QQ F hf hl hr hw hL ⟨trivial, hst.2.2⟩ hls hS hk
theorem Wq.dsub {x y : UInt64} (hd : decode M.2.1 pc = .ok (.dsub, 1)) (hn : vf_n64 (FP.dsub x y)) (q : Wq g d M c n (pc + 1) ls (pD (FP.dsub x y) :: st) m Q) : Wq g d M c n pc ls (pD y :: pD x :: st) m Q := by
  intro p e R s mm args below meth cd H locs L QQ F hf hl hr hw hL hst hls hS hk
  refine lv_dsub F.1 F.2.1 hd hn ?_
  exact q p e R s mm args below meth cd H locs L QQ F hf hl hr hw hL ⟨trivial, hst.2.2⟩ hls hS hk
theorem Wq.dmul {x y : UInt64} (hd : decode M.2.1 pc = .ok (.dmul, 1)) (hn : vf_n64 (FP.dmul x y)) (q : Wq g d M c n (pc + 1) ls (pD (FP.dmul x y) :: st) m Q) : Wq g d M c n pc ls (pD y :: pD x :: st) m Q := by
  intro p e R s mm args below meth cd H locs L QQ F hf hl hr hw hL hst hls hS hk
  refine lv_dmul F.1 F.2.1 hd hn ?_
  exact q p e R s mm args below meth cd H locs L QQ F hf hl hr hw hL ⟨trivial, hst.2.2⟩ hls hS hk
theorem Wq.ddiv {x y : UInt64} (hd : decode M.2.1 pc = .ok (.ddiv, 1)) (hn : vf_n64 (FP.ddiv x y)) (q : Wq g d M c n (pc + 1) ls (pD (FP.ddiv x y) :: st) m Q) : Wq g d M c n pc ls (pD y :: pD x :: st) m Q := by
  intro p e R s mm args below meth cd H locs L QQ F hf hl hr hw hL hst hls hS hk
  refine lv_ddiv F.1 F.2.1 hd hn ?_
  exact q p e R s mm args below meth cd H locs L QQ F hf hl hr hw hL ⟨trivial, hst.2.2⟩ hls hS hk
theorem Wq.dcmp {x y : UInt64} {op : CmpOp} (hd : decode M.2.1 pc = .ok (.dcmp op, 1))  (q : Wq g d M c n (pc + 1) ls (pI (Op.cmpValue (FP.dcmp x y) op) :: st) m Q) : Wq g d M c n pc ls (pD y :: pD x :: st) m Q := by
  intro p e R s mm args below meth cd H locs L QQ F hf hl hr hw hL hst hls hS hk
  refine lv_dcmp F.1 F.2.1 hd ?_
  exact q p e R s mm args below meth cd H locs L QQ F hf hl hr hw hL ⟨trivial, hst.2.2⟩ hls hS hk
theorem Wq.lcmp {x y : Int64} (hd : decode M.2.1 pc = .ok (.lcmp, 1))  (q : Wq g d M c n (pc + 1) ls (pI (lg_cmp x y) :: st) m Q) : Wq g d M c n pc ls (pL y :: pL x :: st) m Q := by
  intro p e R s mm args below meth cd H locs L QQ F hf hl hr hw hL hst hls hS hk
  refine W.lcmp F.1 F.2.1 hd ?_
  exact q p e R s mm args below meth cd H locs L QQ F hf hl hr hw hL ⟨trivial, hst.2.2⟩ hls hS hk
theorem Wq.lshl {x : Int64} {y : Int32} (hd : decode M.2.1 pc = .ok (.lshl, 1))  (q : Wq g d M c n (pc + 1) ls (pL (x <<< (y.toInt64 &&& 63)) :: st) m Q) : Wq g d M c n pc ls (pI y :: pL x :: st) m Q := by
  intro p e R s mm args below meth cd H locs L QQ F hf hl hr hw hL hst hls hS hk
  refine lv_lshl F.1 F.2.1 hd rfl ?_
  exact q p e R s mm args below meth cd H locs L QQ F hf hl hr hw hL ⟨trivial, hst.2.2⟩ hls hS hk
theorem Wq.i2l {x : Int32} (hd : decode M.2.1 pc = .ok (.i2l, 1))  (q : Wq g d M c n (pc + 1) ls (pL x.toInt64 :: st) m Q) : Wq g d M c n pc ls (pI x :: st) m Q := by
  intro p e R s mm args below meth cd H locs L QQ F hf hl hr hw hL hst hls hS hk
  refine lv_i2l F.1 F.2.1 hd rfl ?_
  exact q p e R s mm args below meth cd H locs L QQ F hf hl hr hw hL ⟨trivial, hst.2⟩ hls hS hk
theorem Wq.i2d {x : Int32} (hd : decode M.2.1 pc = .ok (.i2d, 1))  (q : Wq g d M c n (pc + 1) ls (pD (FP.i2d x) :: st) m Q) : Wq g d M c n pc ls (pI x :: st) m Q := by
  intro p e R s mm args below meth cd H locs L QQ F hf hl hr hw hL hst hls hS hk
  refine lv_i2d F.1 F.2.1 hd ?_
  exact q p e R s mm args below meth cd H locs L QQ F hf hl hr hw hL ⟨trivial, hst.2⟩ hls hS hk
theorem Wq.d2l {x : UInt64} (hd : decode M.2.1 pc = .ok (.d2l, 1))  (q : Wq g d M c n (pc + 1) ls (pL (FP.d2l x) :: st) m Q) : Wq g d M c n pc ls (pD x :: st) m Q := by
  intro p e R s mm args below meth cd H locs L QQ F hf hl hr hw hL hst hls hS hk
  refine lv_d2l F.1 F.2.1 hd ?_
  exact q p e R s mm args below meth cd H locs L QQ F hf hl hr hw hL ⟨trivial, hst.2⟩ hls hS hk
theorem Wq.i2c {x : Int32} (hd : decode M.2.1 pc = .ok (.i2c, 1))  (q : Wq g d M c n (pc + 1) ls (pI (x.toUInt32 % 65536).toInt32 :: st) m Q) : Wq g d M c n pc ls (pI x :: st) m Q := by
  intro p e R s mm args below meth cd H locs L QQ F hf hl hr hw hL hst hls hS hk
  refine lv_i2c F.1 F.2.1 hd rfl ?_
  exact q p e R s mm args below meth cd H locs L QQ F hf hl hr hw hL ⟨trivial, hst.2⟩ hls hS hk
theorem Wq.lconst {k : Fin 2} {v : Int64} (hd : decode M.2.1 pc = .ok (.lconst k, 1)) (hv : Int64.ofNat (k : Nat) = v) (q : Wq g d M c n (pc + 1) ls (pL v :: st) m Q) : Wq g d M c n pc ls st m Q := by
  intro p e R s mm args below meth cd H locs L QQ F hf hl hr hw hL hst hls hS hk
  refine lv_lconst F.1 F.2.1 hd hv ?_
  exact q p e R s mm args below meth cd H locs L QQ F hf hl hr hw hL ⟨trivial, hst⟩ hls hS hk
theorem Wq.iconst {k : Int} {v : Int32} (hd : decode M.2.1 pc = .ok (.iconst k, 1)) (hv : Int32.ofInt k = v) (q : Wq g d M c n (pc + 1) ls (pI v :: st) m Q) : Wq g d M c n pc ls st m Q := by
  intro p e R s mm args below meth cd H locs L QQ F hf hl hr hw hL hst hls hS hk
  refine lv_iconst F.1 F.2.1 hd hv ?_
  exact q p e R s mm args below meth cd H locs L QQ F hf hl hr hw hL ⟨trivial, hst⟩ hls hS hk
theorem Wq.bipush {k : Int} {v : Int32} (hd : decode M.2.1 pc = .ok (.bipush k, 2)) (hv : (Int8.ofInt k).toInt32 = v) (q : Wq g d M c n (pc + 2) ls (pI v :: st) m Q) : Wq g d M c n pc ls st m Q := by
  intro p e R s mm args below meth cd H locs L QQ F hf hl hr hw hL hst hls hS hk
  refine lv_bipush F.1 F.2.1 hd hv ?_
  exact q p e R s mm args below meth cd H locs L QQ F hf hl hr hw hL ⟨trivial, hst⟩ hls hS hk
theorem Wq.sipush {k : Int} {v : Int32} (hd : decode M.2.1 pc = .ok (.sipush k, 3)) (hv : (Int16.ofInt k).toInt32 = v) (q : Wq g d M c n (pc + 3) ls (pI v :: st) m Q) : Wq g d M c n pc ls st m Q := by
  intro p e R s mm args below meth cd H locs L QQ F hf hl hr hw hL hst hls hS hk
  refine lv_sipush F.1 F.2.1 hd hv ?_
  exact q p e R s mm args below meth cd H locs L QQ F hf hl hr hw hL ⟨trivial, hst⟩ hls hS hk
theorem Wq.ldc {k : Nat} {v : Int32} (hd : decode M.2.1 pc = .ok (.ldc k, 2)) (hw0 : Cond.constant M.1 k v ∈ gTbl) (q : Wq g d M c n (pc + 2) ls (pI v :: st) m Q) : Wq g d M c n pc ls st m Q := by
  intro p e R s mm args below meth cd H locs L QQ F hf hl hr hw hL hst hls hS hk
  refine lv_ldc F.1 F.2.1 F.2.2.2.1 (F.2.2.2.2.1 _ hw0) hd ?_
  exact q p e R s mm args below meth cd H locs L QQ F hf hl hr hw hL ⟨trivial, hst⟩ hls hS hk
theorem Wq.ldc2 {k : Nat} {v : Int64} (hd : decode M.2.1 pc = .ok (.ldc2_w k, 3)) (hw0 : Cond.constantLong M.1 k v ∈ gTbl) (q : Wq g d M c n (pc + 3) ls (pL v :: st) m Q) : Wq g d M c n pc ls st m Q := by
  intro p e R s mm args below meth cd H locs L QQ F hf hl hr hw hL hst hls hS hk
  refine lv_ldc2 F.1 F.2.1 F.2.2.2.1 (F.2.2.2.2.1 _ hw0) hd ?_
  exact q p e R s mm args below meth cd H locs L QQ F hf hl hr hw hL ⟨trivial, hst⟩ hls hS hk
theorem Wq.ldc2d {k : Nat} {v : UInt64} (hd : decode M.2.1 pc = .ok (.ldc2_w k, 3)) (hw0 : Cond.constantDouble M.1 k v ∈ gTbl) (q : Wq g d M c n (pc + 3) ls (pD v :: st) m Q) : Wq g d M c n pc ls st m Q := by
  intro p e R s mm args below meth cd H locs L QQ F hf hl hr hw hL hst hls hS hk
  refine lv_ldc2d F.1 F.2.1 F.2.2.2.1 (F.2.2.2.2.1 _ hw0) hd ?_
  exact q p e R s mm args below meth cd H locs L QQ F hf hl hr hw hL ⟨trivial, hst⟩ hls hS hk
theorem Wq.dup {v : PV} (hd : decode M.2.1 pc = .ok (.dup, 1)) (hv : two (some v) = false) (q : Wq g d M c n (pc + 1) ls (v :: v :: st) m Q) : Wq g d M c n pc ls (v :: st) m Q := by
  intro p e R s mm args below meth cd H locs L QQ F hf hl hr hw hL hst hls hS hk
  refine lv_dup F.1 F.2.1 hd (one_cat hv) ?_
  exact q p e R s mm args below meth cd H locs L QQ F hf hl hr hw hL ⟨hst.1, hst⟩ hls hS hk
theorem Wq.pop {v : PV} (hd : decode M.2.1 pc = .ok (.pop, 1)) (hv : two (some v) = false) (q : Wq g d M c n (pc + 1) ls st m Q) : Wq g d M c n pc ls (v :: st) m Q := by
  intro p e R s mm args below meth cd H locs L QQ F hf hl hr hw hL hst hls hS hk
  refine lv_pop F.1 F.2.1 hd (one_cat hv) ?_
  exact q p e R s mm args below meth cd H locs L QQ F hf hl hr hw hL hst.2 hls hS hk
theorem Wq.dup2 {v w : PV} (hd : decode M.2.1 pc = .ok (.dup2, 1)) (hv : two (some v) = false) (hv2 : two (some w) = false) (q : Wq g d M c n (pc + 1) ls (v :: w :: v :: w :: st) m Q) : Wq g d M c n pc ls (v :: w :: st) m Q := by
  intro p e R s mm args below meth cd H locs L QQ F hf hl hr hw hL hst hls hS hk
  refine lv_dup2_11 F.1 F.2.1 hd (one_cat hv) (one_cat hv2) ?_
  exact q p e R s mm args below meth cd H locs L QQ F hf hl hr hw hL ⟨hst.1, hst.2.1, hst⟩ hls hS hk
theorem Wq.goto {off : Int} {tgt : Nat} (hd : decode M.2.1 pc = .ok (.goto off, 3)) (ht : (pc : Int) + off = (tgt : Int)) (q : Wq g d M c n tgt ls st m Q) : Wq g d M c n pc ls st m Q := by
  intro p e R s mm args below meth cd H locs L QQ F hf hl hr hw hL hst hls hS hk
  refine lv_goto F.1 F.2.1 hd ht ?_
  exact q p e R s mm args below meth cd H locs L QQ F hf hl hr hw hL hst hls hS hk
theorem Wq.dconst0  (hd : decode M.2.1 pc = .ok (.dconst 0, 1))  (q : Wq g d M c n (pc + 1) ls (pD FP.dconst0 :: st) m Q) : Wq g d M c n pc ls st m Q := by
  intro p e R s mm args below meth cd H locs L QQ F hf hl hr hw hL hst hls hS hk
  refine lv_dconst0 F.1 F.2.1 hd ?_
  exact q p e R s mm args below meth cd H locs L QQ F hf hl hr hw hL ⟨trivial, hst⟩ hls hS hk
theorem Wq.dconst1  (hd : decode M.2.1 pc = .ok (.dconst 1, 1))  (q : Wq g d M c n (pc + 1) ls (pD FP.dconst1 :: st) m Q) : Wq g d M c n pc ls st m Q := by
  intro p e R s mm args below meth cd H locs L QQ F hf hl hr hw hL hst hls hS hk
  refine lv_dconst1 F.1 F.2.1 hd ?_
  exact q p e R s mm args below meth cd H locs L QQ F hf hl hr hw hL ⟨trivial, hst⟩ hls hS hk
theorem Wq.iload_n {k : Fin 4} {x : Int32} (hd : decode M.2.1 pc = .ok (.iload_n k, 1)) (hx : ls[(k : Nat)]? = some (some (pI x))) (q : Wq g d M c n (pc + 1) ls (pI x :: st) m Q) : Wq g d M c n pc ls st m Q := by
  intro p e R s mm args below meth cd H locs L QQ F hf hl hr hw hL hst hls hS hk
  refine lv_iload_n F.1 F.2.1 hd rfl (lp_at hL hx) ?_
  exact q p e R s mm args below meth cd H locs L QQ F hf hl hr hw hL ⟨trivial, hst⟩ hls hS hk
theorem Wq.iload {k : Nat} {x : Int32} (hd : decode M.2.1 pc = .ok (.iload k, 2)) (hx : ls[k]? = some (some (pI x))) (q : Wq g d M c n (pc + 2) ls (pI x :: st) m Q) : Wq g d M c n pc ls st m Q := by
  intro p e R s mm args below meth cd H locs L QQ F hf hl hr hw hL hst hls hS hk
  refine lv_iload F.1 F.2.1 hd (lp_at hL hx) ?_
  exact q p e R s mm args below meth cd H locs L QQ F hf hl hr hw hL ⟨trivial, hst⟩ hls hS hk
theorem Wq.lload_n {k : Fin 4} {x : Int64} (hd : decode M.2.1 pc = .ok (.lload_n k, 1)) (hx : ls[(k : Nat)]? = some (some (pL x))) (q : Wq g d M c n (pc + 1) ls (pL x :: st) m Q) : Wq g d M c n pc ls st m Q := by
  intro p e R s mm args below meth cd H locs L QQ F hf hl hr hw hL hst hls hS hk
  refine lv_lload_n F.1 F.2.1 hd rfl (lp_at hL hx) ?_
  exact q p e R s mm args below meth cd H locs L QQ F hf hl hr hw hL ⟨trivial, hst⟩ hls hS hk
theorem Wq.lload {k : Nat} {x : Int64} (hd : decode M.2.1 pc = .ok (.lload k, 2)) (hx : ls[k]? = some (some (pL x))) (q : Wq g d M c n (pc + 2) ls (pL x :: st) m Q) : Wq g d M c n pc ls st m Q := by
  intro p e R s mm args below meth cd H locs L QQ F hf hl hr hw hL hst hls hS hk
  refine lv_lload F.1 F.2.1 hd (lp_at hL hx) ?_
  exact q p e R s mm args below meth cd H locs L QQ F hf hl hr hw hL ⟨trivial, hst⟩ hls hS hk
theorem Wq.dload_n {k : Fin 4} {x : UInt64} (hd : decode M.2.1 pc = .ok (.dload_n k, 1)) (hx : ls[(k : Nat)]? = some (some (pD x))) (q : Wq g d M c n (pc + 1) ls (pD x :: st) m Q) : Wq g d M c n pc ls st m Q := by
  intro p e R s mm args below meth cd H locs L QQ F hf hl hr hw hL hst hls hS hk
  refine lv_dload_n F.1 F.2.1 hd rfl (lp_at hL hx) ?_
  exact q p e R s mm args below meth cd H locs L QQ F hf hl hr hw hL ⟨trivial, hst⟩ hls hS hk
theorem Wq.dload {k : Nat} {x : UInt64} (hd : decode M.2.1 pc = .ok (.dload k, 2)) (hx : ls[k]? = some (some (pD x))) (q : Wq g d M c n (pc + 2) ls (pD x :: st) m Q) : Wq g d M c n pc ls st m Q := by
  intro p e R s mm args below meth cd H locs L QQ F hf hl hr hw hL hst hls hS hk
  refine lv_dload F.1 F.2.1 hd (lp_at hL hx) ?_
  exact q p e R s mm args below meth cd H locs L QQ F hf hl hr hw hL ⟨trivial, hst⟩ hls hS hk
theorem Wq.aload_n {k : Fin 4} {t r j : Nat} (hd : decode M.2.1 pc = .ok (.aload_n k, 1)) (hx : ls[(k : Nat)]? = some (some (pO t r j))) (q : Wq g d M c n (pc + 1) ls (pO t r j :: st) m Q) : Wq g d M c n pc ls st m Q := by
  intro p e R s mm args below meth cd H locs L QQ F hf hl hr hw hL hst hls hS hk
  refine lv_aload_n F.1 F.2.1 hd rfl (lp_at hL hx) ?_
  exact q p e R s mm args below meth cd H locs L QQ F hf hl hr hw hL ⟨oAll_at hls hx, hst⟩ hls hS hk
theorem Wq.aload {k : Nat} {t r j : Nat} (hd : decode M.2.1 pc = .ok (.aload k, 2)) (hx : ls[k]? = some (some (pO t r j))) (q : Wq g d M c n (pc + 2) ls (pO t r j :: st) m Q) : Wq g d M c n pc ls st m Q := by
  intro p e R s mm args below meth cd H locs L QQ F hf hl hr hw hL hst hls hS hk
  refine lv_aload F.1 F.2.1 hd (lp_at hL hx) ?_
  exact q p e R s mm args below meth cd H locs L QQ F hf hl hr hw hL ⟨oAll_at hls hx, hst⟩ hls hS hk
theorem Wq.istore_n {k : Fin 4} {x : Int32} {ls2 : List (Option PV)} (hd : decode M.2.1 pc = .ok (.istore_n k, 1)) (hn : (k : Nat) < M.2.2.1) (hs : psto1 ls k (pI x) = ls2) (q : Wq g d M c n (pc + 1) ls2 st m Q) : Wq g d M c n pc ls (pI x :: st) m Q := by
  subst hs
  intro p e R s mm args below meth cd H locs L QQ F hf hl hr hw hL hst hls hS hk
  refine lv_istore_n F.1 F.2.1 hd rfl hL hn rfl (fun L2 hL2 => ?_)
  exact q p e R s mm args below meth cd H locs L2 QQ F hf hl hr hw (lp_sto1 hL2) hst.2 (oAll_sto1 hls trivial) hS hk
theorem Wq.istore {k : Nat} {x : Int32} {ls2 : List (Option PV)} (hd : decode M.2.1 pc = .ok (.istore k, 2)) (hn : (k : Nat) < M.2.2.1) (hs : psto1 ls k (pI x) = ls2) (q : Wq g d M c n (pc + 2) ls2 st m Q) : Wq g d M c n pc ls (pI x :: st) m Q := by
  subst hs
  intro p e R s mm args below meth cd H locs L QQ F hf hl hr hw hL hst hls hS hk
  refine lv_istore F.1 F.2.1 hd hL hn rfl (fun L2 hL2 => ?_)
  exact q p e R s mm args below meth cd H locs L2 QQ F hf hl hr hw (lp_sto1 hL2) hst.2 (oAll_sto1 hls trivial) hS hk
theorem Wq.lstore_n {k : Fin 4} {x : Int64} {ls2 : List (Option PV)} (hd : decode M.2.1 pc = .ok (.lstore_n k, 1)) (hn : (k : Nat) + 1 < M.2.2.1) (hs : psto2 ls k (pL x) = ls2) (q : Wq g d M c n (pc + 1) ls2 st m Q) : Wq g d M c n pc ls (pL x :: st) m Q := by
  subst hs
  intro p e R s mm args below meth cd H locs L QQ F hf hl hr hw hL hst hls hS hk
  refine lv_lstore_n F.1 F.2.1 hd rfl hL hn rfl (fun L2 hL2 => ?_)
  exact q p e R s mm args below meth cd H locs L2 QQ F hf hl hr hw (lp_sto2 hL2) hst.2 (oAll_sto2 hls trivial) hS hk
theorem Wq.lstore {k : Nat} {x : Int64} {ls2 : List (Option PV)} (hd : decode M.2.1 pc = .ok (.lstore k, 2)) (hn : k + 1 < M.2.2.1) (hs : psto2 ls k (pL x) = ls2) (q : Wq g d M c n (pc + 2) ls2 st m Q) : Wq g d M c n pc ls (pL x :: st) m Q := by
  subst hs
  intro p e R s mm args below meth cd H locs L QQ F hf hl hr hw hL hst hls hS hk
  refine lv_lstore F.1 F.2.1 hd hL hn rfl (fun L2 hL2 => ?_)
  exact q p e R s mm args below meth cd H locs L2 QQ F hf hl hr hw (lp_sto2 hL2) hst.2 (oAll_sto2 hls trivial) hS hk
theorem Wq.dstore_n {k : Fin 4} {x : UInt64} {ls2 : List (Option PV)} (hd : decode M.2.1 pc = .ok (.dstore_n k, 1)) (hn : (k : Nat) + 1 < M.2.2.1) (hs : psto2 ls k (pD x) = ls2) (q : Wq g d M c n (pc + 1) ls2 st m Q) : Wq g d M c n pc ls (pD x :: st) m Q := by
  subst hs
  intro p e R s mm args below meth cd H locs L QQ F hf hl hr hw hL hst hls hS hk
  refine lv_dstore_n F.1 F.2.1 hd rfl hL hn rfl (fun L2 hL2 => ?_)
  exact q p e R s mm args below meth cd H locs L2 QQ F hf hl hr hw (lp_sto2 hL2) hst.2 (oAll_sto2 hls trivial) hS hk
theorem Wq.dstore {k : Nat} {x : UInt64} {ls2 : List (Option PV)} (hd : decode M.2.1 pc = .ok (.dstore k, 2)) (hn : k + 1 < M.2.2.1) (hs : psto2 ls k (pD x) = ls2) (q : Wq g d M c n (pc + 2) ls2 st m Q) : Wq g d M c n pc ls (pD x :: st) m Q := by
  subst hs
  intro p e R s mm args below meth cd H locs L QQ F hf hl hr hw hL hst hls hS hk
  refine lv_dstore F.1 F.2.1 hd hL hn rfl (fun L2 hL2 => ?_)
  exact q p e R s mm args below meth cd H locs L2 QQ F hf hl hr hw (lp_sto2 hL2) hst.2 (oAll_sto2 hls trivial) hS hk
theorem Wq.astore_n {k : Fin 4} {t r j : Nat} {ls2 : List (Option PV)} (hd : decode M.2.1 pc = .ok (.astore_n k, 1)) (hn : (k : Nat) < M.2.2.1) (hs : psto1 ls k (pO t r j) = ls2) (q : Wq g d M c n (pc + 1) ls2 st m Q) : Wq g d M c n pc ls (pO t r j :: st) m Q := by
  subst hs
  intro p e R s mm args below meth cd H locs L QQ F hf hl hr hw hL hst hls hS hk
  refine lv_astore_n F.1 F.2.1 hd rfl hL hn rfl (fun L2 hL2 => ?_)
  exact q p e R s mm args below meth cd H locs L2 QQ F hf hl hr hw (lp_sto1 hL2) hst.2 (oAll_sto1 hls hst.1) hS hk
theorem Wq.astore {k : Nat} {t r j : Nat} {ls2 : List (Option PV)} (hd : decode M.2.1 pc = .ok (.astore k, 2)) (hn : (k : Nat) < M.2.2.1) (hs : psto1 ls k (pO t r j) = ls2) (q : Wq g d M c n (pc + 2) ls2 st m Q) : Wq g d M c n pc ls (pO t r j :: st) m Q := by
  subst hs
  intro p e R s mm args below meth cd H locs L QQ F hf hl hr hw hL hst hls hS hk
  refine lv_astore F.1 F.2.1 hd hL hn rfl (fun L2 hL2 => ?_)
  exact q p e R s mm args below meth cd H locs L2 QQ F hf hl hr hw (lp_sto1 hL2) hst.2 (oAll_sto1 hls hst.1) hS hk
theorem lp_find {g : GG} {ls : List (Option PV)} {k : Nat} {v : PV} (h : ls[k]? = some (some v)) : ∃ j : Nat, (lp g 0 ls)[j]? = some (k, pv g v) := by
  have := lp_in (g := g) ls 0 k v h
  rw [Nat.zero_add] at this
  exact List.getElem?_of_mem this
theorem Wq.iinc {k : Nat} {a : Int} {x : Int32} {ls2 : List (Option PV)} (hd : decode M.2.1 pc = .ok (.iinc k a, 3)) (hx : ls[k]? = some (some (pI x))) (hn : k < M.2.2.1) (hs : psto1 ls k (pI (x + Int32.ofInt a)) = ls2) (q : Wq g d M c n (pc + 3) ls2 st m Q) : Wq g d M c n pc ls st m Q := by
  subst hs
  intro p e R s mm args below meth cd H locs L QQ F hf hl hr hw hL hst hls hS hk
  obtain ⟨j, hj⟩ := lp_find (g := g) hx
  refine lv_iinc F.1 F.2.1 hd hL hj rfl hn rfl (fun L2 hL2 => ?_)
  exact q p e R s mm args below meth cd H locs L2 QQ F hf hl hr hw (lp_sto1 hL2) hst (oAll_sto1 hls trivial) hS hk
theorem Wq.ifeq {x : Int32} {off : Int} {tgt : Nat} (hd : decode M.2.1 pc = .ok (.ifCond .eq off, 3)) (ht : (pc : Int) + off = (tgt : Int)) (q1 : x = 0 → Wq g d M c n tgt ls st m Q) (q2 : ¬ x = 0 → Wq g d M c n (pc + 3) ls st m Q) : Wq g d M c n pc ls (pI x :: st) m Q := by
  intro p e R s mm args below meth cd H locs L QQ F hf hl hr hw hL hst hls hS hk
  refine lv_if_eq F.1 F.2.1 hd ht (fun h => ?_) (fun h => ?_)
  · exact q1 h p e R s mm args below meth cd H locs L QQ F hf hl hr hw hL hst.2 hls hS hk
  · exact q2 h p e R s mm args below meth cd H locs L QQ F hf hl hr hw hL hst.2 hls hS hk
theorem Wq.ifne {x : Int32} {off : Int} {tgt : Nat} (hd : decode M.2.1 pc = .ok (.ifCond .ne off, 3)) (ht : (pc : Int) + off = (tgt : Int)) (q1 : ¬ x = 0 → Wq g d M c n tgt ls st m Q) (q2 : x = 0 → Wq g d M c n (pc + 3) ls st m Q) : Wq g d M c n pc ls (pI x :: st) m Q := by
  intro p e R s mm args below meth cd H locs L QQ F hf hl hr hw hL hst hls hS hk
  refine lv_if_ne F.1 F.2.1 hd ht (fun h => ?_) (fun h => ?_)
  · exact q1 h p e R s mm args below meth cd H locs L QQ F hf hl hr hw hL hst.2 hls hS hk
  · exact q2 h p e R s mm args below meth cd H locs L QQ F hf hl hr hw hL hst.2 hls hS hk
theorem Wq.iflt {x : Int32} {off : Int} {tgt : Nat} (hd : decode M.2.1 pc = .ok (.ifCond .lt off, 3)) (ht : (pc : Int) + off = (tgt : Int)) (q1 : x < 0 → Wq g d M c n tgt ls st m Q) (q2 : ¬ x < 0 → Wq g d M c n (pc + 3) ls st m Q) : Wq g d M c n pc ls (pI x :: st) m Q := by
  intro p e R s mm args below meth cd H locs L QQ F hf hl hr hw hL hst hls hS hk
  refine lv_if_lt F.1 F.2.1 hd ht (fun h => ?_) (fun h => ?_)
  · exact q1 h p e R s mm args below meth cd H locs L QQ F hf hl hr hw hL hst.2 hls hS hk
  · exact q2 h p e R s mm args below meth cd H locs L QQ F hf hl hr hw hL hst.2 hls hS hk
theorem Wq.ifge {x : Int32} {off : Int} {tgt : Nat} (hd : decode M.2.1 pc = .ok (.ifCond .ge off, 3)) (ht : (pc : Int) + off = (tgt : Int)) (q1 : 0 ≤ x → Wq g d M c n tgt ls st m Q) (q2 : ¬ 0 ≤ x → Wq g d M c n (pc + 3) ls st m Q) : Wq g d M c n pc ls (pI x :: st) m Q := by
  intro p e R s mm args below meth cd H locs L QQ F hf hl hr hw hL hst hls hS hk
  refine lv_if_ge F.1 F.2.1 hd ht (fun h => ?_) (fun h => ?_)
  · exact q1 h p e R s mm args below meth cd H locs L QQ F hf hl hr hw hL hst.2 hls hS hk
  · exact q2 h p e R s mm args below meth cd H locs L QQ F hf hl hr hw hL hst.2 hls hS hk
theorem Wq.ifgt {x : Int32} {off : Int} {tgt : Nat} (hd : decode M.2.1 pc = .ok (.ifCond .gt off, 3)) (ht : (pc : Int) + off = (tgt : Int)) (q1 : 0 < x → Wq g d M c n tgt ls st m Q) (q2 : ¬ 0 < x → Wq g d M c n (pc + 3) ls st m Q) : Wq g d M c n pc ls (pI x :: st) m Q := by
  intro p e R s mm args below meth cd H locs L QQ F hf hl hr hw hL hst hls hS hk
  refine lv_if_gt F.1 F.2.1 hd ht (fun h => ?_) (fun h => ?_)
  · exact q1 h p e R s mm args below meth cd H locs L QQ F hf hl hr hw hL hst.2 hls hS hk
  · exact q2 h p e R s mm args below meth cd H locs L QQ F hf hl hr hw hL hst.2 hls hS hk
theorem Wq.ifle {x : Int32} {off : Int} {tgt : Nat} (hd : decode M.2.1 pc = .ok (.ifCond .le off, 3)) (ht : (pc : Int) + off = (tgt : Int)) (q1 : x ≤ 0 → Wq g d M c n tgt ls st m Q) (q2 : ¬ x ≤ 0 → Wq g d M c n (pc + 3) ls st m Q) : Wq g d M c n pc ls (pI x :: st) m Q := by
  intro p e R s mm args below meth cd H locs L QQ F hf hl hr hw hL hst hls hS hk
  refine lv_if_le F.1 F.2.1 hd ht (fun h => ?_) (fun h => ?_)
  · exact q1 h p e R s mm args below meth cd H locs L QQ F hf hl hr hw hL hst.2 hls hS hk
  · exact q2 h p e R s mm args below meth cd H locs L QQ F hf hl hr hw hL hst.2 hls hS hk
theorem Wq.icmpeq {x y : Int32} {off : Int} {tgt : Nat} (hd : decode M.2.1 pc = .ok (.if_icmp .eq off, 3)) (ht : (pc : Int) + off = (tgt : Int)) (q1 : x = y → Wq g d M c n tgt ls st m Q) (q2 : ¬ x = y → Wq g d M c n (pc + 3) ls st m Q) : Wq g d M c n pc ls (pI y :: pI x :: st) m Q := by
  intro p e R s mm args below meth cd H locs L QQ F hf hl hr hw hL hst hls hS hk
  refine lv_icmp_eq F.1 F.2.1 hd ht (fun h => ?_) (fun h => ?_)
  · exact q1 h p e R s mm args below meth cd H locs L QQ F hf hl hr hw hL hst.2.2 hls hS hk
  · exact q2 h p e R s mm args below meth cd H locs L QQ F hf hl hr hw hL hst.2.2 hls hS hk
theorem Wq.icmpne {x y : Int32} {off : Int} {tgt : Nat} (hd : decode M.2.1 pc = .ok (.if_icmp .ne off, 3)) (ht : (pc : Int) + off = (tgt : Int)) (q1 : ¬ x = y → Wq g d M c n tgt ls st m Q) (q2 : x = y → Wq g d M c n (pc + 3) ls st m Q) : Wq g d M c n pc ls (pI y :: pI x :: st) m Q := by
  intro p e R s mm args below meth cd H locs L QQ F hf hl hr hw hL hst hls hS hk
  refine lv_icmp_ne F.1 F.2.1 hd ht (fun h => ?_) (fun h => ?_)
  · exact q1 h p e R s mm args below meth cd H locs L QQ F hf hl hr hw hL hst.2.2 hls hS hk
  · exact q2 h p e R s mm args below meth cd H locs L QQ F hf hl hr hw hL hst.2.2 hls hS hk
theorem Wq.icmplt {x y : Int32} {off : Int} {tgt : Nat} (hd : decode M.2.1 pc = .ok (.if_icmp .lt off, 3)) (ht : (pc : Int) + off = (tgt : Int)) (q1 : x < y → Wq g d M c n tgt ls st m Q) (q2 : ¬ x < y → Wq g d M c n (pc + 3) ls st m Q) : Wq g d M c n pc ls (pI y :: pI x :: st) m Q := by
  intro p e R s mm args below meth cd H locs L QQ F hf hl hr hw hL hst hls hS hk
  refine lv_icmp_lt F.1 F.2.1 hd ht (fun h => ?_) (fun h => ?_)
  · exact q1 h p e R s mm args below meth cd H locs L QQ F hf hl hr hw hL hst.2.2 hls hS hk
  · exact q2 h p e R s mm args below meth cd H locs L QQ F hf hl hr hw hL hst.2.2 hls hS hk
theorem Wq.icmpge {x y : Int32} {off : Int} {tgt : Nat} (hd : decode M.2.1 pc = .ok (.if_icmp .ge off, 3)) (ht : (pc : Int) + off = (tgt : Int)) (q1 : y ≤ x → Wq g d M c n tgt ls st m Q) (q2 : ¬ y ≤ x → Wq g d M c n (pc + 3) ls st m Q) : Wq g d M c n pc ls (pI y :: pI x :: st) m Q := by
  intro p e R s mm args below meth cd H locs L QQ F hf hl hr hw hL hst hls hS hk
  refine lv_icmp_ge F.1 F.2.1 hd ht (fun h => ?_) (fun h => ?_)
  · exact q1 h p e R s mm args below meth cd H locs L QQ F hf hl hr hw hL hst.2.2 hls hS hk
  · exact q2 h p e R s mm args below meth cd H locs L QQ F hf hl hr hw hL hst.2.2 hls hS hk
theorem Wq.icmpgt {x y : Int32} {off : Int} {tgt : Nat} (hd : decode M.2.1 pc = .ok (.if_icmp .gt off, 3)) (ht : (pc : Int) + off = (tgt : Int)) (q1 : y < x → Wq g d M c n tgt ls st m Q) (q2 : ¬ y < x → Wq g d M c n (pc + 3) ls st m Q) : Wq g d M c n pc ls (pI y :: pI x :: st) m Q := by
  intro p e R s mm args below meth cd H locs L QQ F hf hl hr hw hL hst hls hS hk
  refine lv_icmp_gt F.1 F.2.1 hd ht (fun h => ?_) (fun h => ?_)
  · exact q1 h p e R s mm args below meth cd H locs L QQ F hf hl hr hw hL hst.2.2 hls hS hk
  · exact q2 h p e R s mm args below meth cd H locs L QQ F hf hl hr hw hL hst.2.2 hls hS hk
theorem Wq.icmple {x y : Int32} {off : Int} {tgt : Nat} (hd : decode M.2.1 pc = .ok (.if_icmp .le off, 3)) (ht : (pc : Int) + off = (tgt : Int)) (q1 : x ≤ y → Wq g d M c n tgt ls st m Q) (q2 : ¬ x ≤ y → Wq g d M c n (pc + 3) ls st m Q) : Wq g d M c n pc ls (pI y :: pI x :: st) m Q := by
  intro p e R s mm args below meth cd H locs L QQ F hf hl hr hw hL hst hls hS hk
  refine lv_icmp_le F.1 F.2.1 hd ht (fun h => ?_) (fun h => ?_)
  · exact q1 h p e R s mm args below meth cd H locs L QQ F hf hl hr hw hL hst.2.2 hls hS hk
  · exact q2 h p e R s mm args below meth cd H locs L QQ F hf hl hr hw hL hst.2.2 hls hS hk
theorem Wq.tableIn {dflt lo hi : Int} {offs : Array Int} {len : Nat} {x : Int32} {off : Int} {tgt : Nat} (hd : decode M.2.1 pc = .ok (.tableswitch dflt lo hi offs, len)) (h1 : ¬ x.toInt < lo) (h2 : ¬ hi < x.toInt) (ho : offs[(x.toInt - lo).toNat]? = some off) (ht : (pc : Int) + off = (tgt : Int)) (q : Wq g d M c n tgt ls st m Q) : Wq g d M c n pc ls (pI x :: st) m Q := by
  intro p e R s mm args below meth cd H locs L QQ F hf hl hr hw hL hst hls hS hk
  refine lv_tableIn F.1 F.2.1 hd h1 h2 ho ht ?_
  exact q p e R s mm args below meth cd H locs L QQ F hf hl hr hw hL hst.2 hls hS hk
theorem Wq.tableOut {dflt lo hi : Int} {offs : Array Int} {len : Nat} {x : Int32} {tgt : Nat} (hd : decode M.2.1 pc = .ok (.tableswitch dflt lo hi offs, len)) (h : x.toInt < lo ∨ hi < x.toInt) (ht : (pc : Int) + dflt = (tgt : Int)) (q : Wq g d M c n tgt ls st m Q) : Wq g d M c n pc ls (pI x :: st) m Q := by
  intro p e R s mm args below meth cd H locs L QQ F hf hl hr hw hL hst hls hS hk
  refine lv_tableOut F.1 F.2.1 hd h ht ?_
  exact q p e R s mm args below meth cd H locs L QQ F hf hl hr hw hL hst.2 hls hS hk
theorem Wq.lookup {dflt : Int} {ps : Array (Int × Int)} {len : Nat} {x : Int32} {off : Int} {tgt : Nat} (hd : decode M.2.1 pc = .ok (.lookupswitch dflt ps, len)) (hp : (ps.toList.zip (ps.toList.drop 1)).all (fun (a, next) => a.1 < next.1) = true) (ho : Op.lookupswitch.offset ps.toList dflt x.toInt = off) (ht : (pc : Int) + off = (tgt : Int)) (q : Wq g d M c n tgt ls st m Q) : Wq g d M c n pc ls (pI x :: st) m Q := by
  intro p e R s mm args below meth cd H locs L QQ F hf hl hr hw hL hst hls hS hk
  refine lv_lookup F.1 F.2.1 hd hp ho ht ?_
  exact q p e R s mm args below meth cd H locs L QQ F hf hl hr hw hL hst.2 hls hS hk
end RL
