/-! a rule an instruction: what stands on the stack and in the locals alone -/
section RULES
variable {sc : Option (Nat × (Nat → Int32))} {i pc nx a b : Nat} {ws : List Nat} {cv : Value} {lv : List (Option Value)} {st : List Value} {w : MW} {cap scap : Nat} {Φ : Option Value → MW → Prop}
theorem r_iadd {x y : Int32} (hf : fetch i pc = some (.iadd, nx, a, b, ws, cv))  (h : Ok sc i nx lv (.int (x + y) :: st) w cap scap Φ) : Ok sc i pc lv (.int y :: .int x :: st) w cap scap Φ := by
  intro p l e R s m args below meth c H locs cells slots Q D aC o ls C hsc ho hR hS hl hc hk
  obtain ⟨hd, rfl, -⟩ := ck_dec hf rfl
  exact lv_iadd C.1 C.2.1 hd  (h p l e R s m args below meth c H locs cells slots Q D aC o ls C hsc ho hR hS hl hc hk)
theorem r_isub {x y : Int32} (hf : fetch i pc = some (.isub, nx, a, b, ws, cv))  (h : Ok sc i nx lv (.int (x - y) :: st) w cap scap Φ) : Ok sc i pc lv (.int y :: .int x :: st) w cap scap Φ := by
  intro p l e R s m args below meth c H locs cells slots Q D aC o ls C hsc ho hR hS hl hc hk
  obtain ⟨hd, rfl, -⟩ := ck_dec hf rfl
  exact lv_isub C.1 C.2.1 hd  (h p l e R s m args below meth c H locs cells slots Q D aC o ls C hsc ho hR hS hl hc hk)
theorem r_imul {x y : Int32} (hf : fetch i pc = some (.imul, nx, a, b, ws, cv))  (h : Ok sc i nx lv (.int (x * y) :: st) w cap scap Φ) : Ok sc i pc lv (.int y :: .int x :: st) w cap scap Φ := by
  intro p l e R s m args below meth c H locs cells slots Q D aC o ls C hsc ho hR hS hl hc hk
  obtain ⟨hd, rfl, -⟩ := ck_dec hf rfl
  exact lv_imul C.1 C.2.1 hd  (h p l e R s m args below meth c H locs cells slots Q D aC o ls C hsc ho hR hS hl hc hk)
theorem r_iand {x y : Int32} (hf : fetch i pc = some (.iand, nx, a, b, ws, cv))  (h : Ok sc i nx lv (.int (x &&& y) :: st) w cap scap Φ) : Ok sc i pc lv (.int y :: .int x :: st) w cap scap Φ := by
  intro p l e R s m args below meth c H locs cells slots Q D aC o ls C hsc ho hR hS hl hc hk
  obtain ⟨hd, rfl, -⟩ := ck_dec hf rfl
  exact lv_iand C.1 C.2.1 hd  (h p l e R s m args below meth c H locs cells slots Q D aC o ls C hsc ho hR hS hl hc hk)
theorem r_ior {x y : Int32} (hf : fetch i pc = some (.ior, nx, a, b, ws, cv))  (h : Ok sc i nx lv (.int (x ||| y) :: st) w cap scap Φ) : Ok sc i pc lv (.int y :: .int x :: st) w cap scap Φ := by
  intro p l e R s m args below meth c H locs cells slots Q D aC o ls C hsc ho hR hS hl hc hk
  obtain ⟨hd, rfl, -⟩ := ck_dec hf rfl
  exact lv_ior C.1 C.2.1 hd  (h p l e R s m args below meth c H locs cells slots Q D aC o ls C hsc ho hR hS hl hc hk)
theorem r_ishl {x y : Int32} (hf : fetch i pc = some (.ishl, nx, a, b, ws, cv))  (h : Ok sc i nx lv (.int (x <<< (y &&& 31)) :: st) w cap scap Φ) : Ok sc i pc lv (.int y :: .int x :: st) w cap scap Φ := by
  intro p l e R s m args below meth c H locs cells slots Q D aC o ls C hsc ho hR hS hl hc hk
  obtain ⟨hd, rfl, -⟩ := ck_dec hf rfl
  exact lv_ishl C.1 C.2.1 hd  (h p l e R s m args below meth c H locs cells slots Q D aC o ls C hsc ho hR hS hl hc hk)
theorem r_ishr {x y : Int32} (hf : fetch i pc = some (.ishr, nx, a, b, ws, cv))  (h : Ok sc i nx lv (.int (x >>> (y &&& 31)) :: st) w cap scap Φ) : Ok sc i pc lv (.int y :: .int x :: st) w cap scap Φ := by
  intro p l e R s m args below meth c H locs cells slots Q D aC o ls C hsc ho hR hS hl hc hk
  obtain ⟨hd, rfl, -⟩ := ck_dec hf rfl
  exact lv_ishr C.1 C.2.1 hd  (h p l e R s m args below meth c H locs cells slots Q D aC o ls C hsc ho hR hS hl hc hk)
theorem r_idiv {x y : Int32} (hf : fetch i pc = some (.idiv, nx, a, b, ws, cv)) (hne : ¬ y = 0) (h : Ok sc i nx lv (.int (x / y) :: st) w cap scap Φ) : Ok sc i pc lv (.int y :: .int x :: st) w cap scap Φ := by
  intro p l e R s m args below meth c H locs cells slots Q D aC o ls C hsc ho hR hS hl hc hk
  obtain ⟨hd, rfl, -⟩ := ck_dec hf rfl
  exact lv_idiv C.1 C.2.1 hd hne (h p l e R s m args below meth c H locs cells slots Q D aC o ls C hsc ho hR hS hl hc hk)
theorem r_irem {x y : Int32} (hf : fetch i pc = some (.irem, nx, a, b, ws, cv)) (hne : ¬ y = 0) (h : Ok sc i nx lv (.int (x - x / y * y) :: st) w cap scap Φ) : Ok sc i pc lv (.int y :: .int x :: st) w cap scap Φ := by
  intro p l e R s m args below meth c H locs cells slots Q D aC o ls C hsc ho hR hS hl hc hk
  obtain ⟨hd, rfl, -⟩ := ck_dec hf rfl
  exact lv_irem C.1 C.2.1 hd hne (h p l e R s m args below meth c H locs cells slots Q D aC o ls C hsc ho hR hS hl hc hk)
theorem r_ineg {x : Int32} (hf : fetch i pc = some (.ineg, nx, a, b, ws, cv))  (h : Ok sc i nx lv (.int (-x) :: st) w cap scap Φ) : Ok sc i pc lv (.int x :: st) w cap scap Φ := by
  intro p l e R s m args below meth c H locs cells slots Q D aC o ls C hsc ho hR hS hl hc hk
  obtain ⟨hd, rfl, -⟩ := ck_dec hf rfl
  exact lv_ineg C.1 C.2.1 hd  (h p l e R s m args below meth c H locs cells slots Q D aC o ls C hsc ho hR hS hl hc hk)
theorem r_ladd {x y : Int64} (hf : fetch i pc = some (.ladd, nx, a, b, ws, cv))  (h : Ok sc i nx lv (.long (x + y) :: st) w cap scap Φ) : Ok sc i pc lv (.long y :: .long x :: st) w cap scap Φ := by
  intro p l e R s m args below meth c H locs cells slots Q D aC o ls C hsc ho hR hS hl hc hk
  obtain ⟨hd, rfl, -⟩ := ck_dec hf rfl
  exact lv_ladd C.1 C.2.1 hd  (h p l e R s m args below meth c H locs cells slots Q D aC o ls C hsc ho hR hS hl hc hk)
theorem r_lmul {x y : Int64} (hf : fetch i pc = some (.lmul, nx, a, b, ws, cv))  (h : Ok sc i nx lv (.long (x * y) :: st) w cap scap Φ) : Ok sc i pc lv (.long y :: .long x :: st) w cap scap Φ := by
  intro p l e R s m args below meth c H locs cells slots Q D aC o ls C hsc ho hR hS hl hc hk
  obtain ⟨hd, rfl, -⟩ := ck_dec hf rfl
  exact lv_lmul C.1 C.2.1 hd  (h p l e R s m args below meth c H locs cells slots Q D aC o ls C hsc ho hR hS hl hc hk)
theorem r_lcmp {x y : Int64} (hf : fetch i pc = some (.lcmp, nx, a, b, ws, cv))  (h : Ok sc i nx lv (.int (lg_cmp x y) :: st) w cap scap Φ) : Ok sc i pc lv (.long y :: .long x :: st) w cap scap Φ := by
  intro p l e R s m args below meth c H locs cells slots Q D aC o ls C hsc ho hR hS hl hc hk
  obtain ⟨hd, rfl, -⟩ := ck_dec hf rfl
  exact W.lcmp C.1 C.2.1 hd  (h p l e R s m args below meth c H locs cells slots Q D aC o ls C hsc ho hR hS hl hc hk)
theorem r_i2l {x : Int32} (hf : fetch i pc = some (.i2l, nx, a, b, ws, cv))  (h : Ok sc i nx lv (.long x.toInt64 :: st) w cap scap Φ) : Ok sc i pc lv (.int x :: st) w cap scap Φ := by
  intro p l e R s m args below meth c H locs cells slots Q D aC o ls C hsc ho hR hS hl hc hk
  obtain ⟨hd, rfl, -⟩ := ck_dec hf rfl
  exact lv_i2l C.1 C.2.1 hd rfl (h p l e R s m args below meth c H locs cells slots Q D aC o ls C hsc ho hR hS hl hc hk)
theorem r_i2f {x : Int32} (hf : fetch i pc = some (.i2f, nx, a, b, ws, cv))  (h : Ok sc i nx lv (.float (FP.i2f x) :: st) w cap scap Φ) : Ok sc i pc lv (.int x :: st) w cap scap Φ := by
  intro p l e R s m args below meth c H locs cells slots Q D aC o ls C hsc ho hR hS hl hc hk
  obtain ⟨hd, rfl, -⟩ := ck_dec hf rfl
  exact lv_i2f C.1 C.2.1 hd  (h p l e R s m args below meth c H locs cells slots Q D aC o ls C hsc ho hR hS hl hc hk)
theorem r_f2i {x : UInt32} (hf : fetch i pc = some (.f2i, nx, a, b, ws, cv))  (h : Ok sc i nx lv (.int (FP.f2i x) :: st) w cap scap Φ) : Ok sc i pc lv (.float x :: st) w cap scap Φ := by
  intro p l e R s m args below meth c H locs cells slots Q D aC o ls C hsc ho hR hS hl hc hk
  obtain ⟨hd, rfl, -⟩ := ck_dec hf rfl
  exact lv_f2i C.1 C.2.1 hd  (h p l e R s m args below meth c H locs cells slots Q D aC o ls C hsc ho hR hS hl hc hk)
theorem r_fmul {x y : UInt32} (hf : fetch i pc = some (.fmul, nx, a, b, ws, cv)) (hne : vf_n32 (FP.fmul x y)) (h : Ok sc i nx lv (.float (FP.fmul x y) :: st) w cap scap Φ) : Ok sc i pc lv (.float y :: .float x :: st) w cap scap Φ := by
  intro p l e R s m args below meth c H locs cells slots Q D aC o ls C hsc ho hR hS hl hc hk
  obtain ⟨hd, rfl, -⟩ := ck_dec hf rfl
  exact lv_fmul C.1 C.2.1 hd hne (h p l e R s m args below meth c H locs cells slots Q D aC o ls C hsc ho hR hS hl hc hk)
theorem r_fdiv {x y : UInt32} (hf : fetch i pc = some (.fdiv, nx, a, b, ws, cv)) (hne : vf_n32 (FP.fdiv x y)) (h : Ok sc i nx lv (.float (FP.fdiv x y) :: st) w cap scap Φ) : Ok sc i pc lv (.float y :: .float x :: st) w cap scap Φ := by
  intro p l e R s m args below meth c H locs cells slots Q D aC o ls C hsc ho hR hS hl hc hk
  obtain ⟨hd, rfl, -⟩ := ck_dec hf rfl
  exact lv_fdiv C.1 C.2.1 hd hne (h p l e R s m args below meth c H locs cells slots Q D aC o ls C hsc ho hR hS hl hc hk)
theorem r_fsub {x y : UInt32} (hf : fetch i pc = some (.fsub, nx, a, b, ws, cv)) (hne : vf_n32 (FP.fsub x y)) (h : Ok sc i nx lv (.float (FP.fsub x y) :: st) w cap scap Φ) : Ok sc i pc lv (.float y :: .float x :: st) w cap scap Φ := by
  intro p l e R s m args below meth c H locs cells slots Q D aC o ls C hsc ho hR hS hl hc hk
  obtain ⟨hd, rfl, -⟩ := ck_dec hf rfl
  exact lv_fsub C.1 C.2.1 hd hne (h p l e R s m args below meth c H locs cells slots Q D aC o ls C hsc ho hR hS hl hc hk)
theorem r_fcmp {x y : UInt32} {op : CmpOp} (hf : fetch i pc = some (.fcmp op, nx, a, b, ws, cv))  (h : Ok sc i nx lv (.int (Op.cmpValue (FP.fcmp x y) op) :: st) w cap scap Φ) : Ok sc i pc lv (.float y :: .float x :: st) w cap scap Φ := by
  intro p l e R s m args below meth c H locs cells slots Q D aC o ls C hsc ho hR hS hl hc hk
  obtain ⟨hd, rfl, -⟩ := ck_dec hf rfl
  exact lv_fcmp C.1 C.2.1 hd  (h p l e R s m args below meth c H locs cells slots Q D aC o ls C hsc ho hR hS hl hc hk)
theorem r_iconst {n : Int} (hf : fetch i pc = some (.iconst n, nx, a, b, ws, cv))  (h : Ok sc i nx lv (.int (Int32.ofInt n) :: st) w cap scap Φ) : Ok sc i pc lv (st) w cap scap Φ := by
  intro p l e R s m args below meth c H locs cells slots Q D aC o ls C hsc ho hR hS hl hc hk
  obtain ⟨hd, rfl, -⟩ := ck_dec hf rfl
  exact lv_iconst C.1 C.2.1 hd rfl (h p l e R s m args below meth c H locs cells slots Q D aC o ls C hsc ho hR hS hl hc hk)
theorem r_bipush {n : Int} {v : Int32} (hf : fetch i pc = some (.bipush n, nx, a, b, ws, cv)) (hv : (Int8.ofInt n).toInt32 = v) (h : Ok sc i nx lv (.int v :: st) w cap scap Φ) : Ok sc i pc lv (st) w cap scap Φ := by
  intro p l e R s m args below meth c H locs cells slots Q D aC o ls C hsc ho hR hS hl hc hk
  obtain ⟨hd, rfl, -⟩ := ck_dec hf rfl
  exact lv_bipush C.1 C.2.1 hd hv (h p l e R s m args below meth c H locs cells slots Q D aC o ls C hsc ho hR hS hl hc hk)
theorem r_sipush {n : Int} {v : Int32} (hf : fetch i pc = some (.sipush n, nx, a, b, ws, cv)) (hv : (Int16.ofInt n).toInt32 = v) (h : Ok sc i nx lv (.int v :: st) w cap scap Φ) : Ok sc i pc lv (st) w cap scap Φ := by
  intro p l e R s m args below meth c H locs cells slots Q D aC o ls C hsc ho hR hS hl hc hk
  obtain ⟨hd, rfl, -⟩ := ck_dec hf rfl
  exact lv_sipush C.1 C.2.1 hd hv (h p l e R s m args below meth c H locs cells slots Q D aC o ls C hsc ho hR hS hl hc hk)
theorem r_fconst0  (hf : fetch i pc = some (.fconst 0, nx, a, b, ws, cv))  (h : Ok sc i nx lv (.float FP.fconst0 :: st) w cap scap Φ) : Ok sc i pc lv (st) w cap scap Φ := by
  intro p l e R s m args below meth c H locs cells slots Q D aC o ls C hsc ho hR hS hl hc hk
  obtain ⟨hd, rfl, -⟩ := ck_dec hf rfl
  exact lv_fconst0 C.1 C.2.1 hd  (h p l e R s m args below meth c H locs cells slots Q D aC o ls C hsc ho hR hS hl hc hk)
theorem r_fconst1  (hf : fetch i pc = some (.fconst 1, nx, a, b, ws, cv))  (h : Ok sc i nx lv (.float FP.fconst1 :: st) w cap scap Φ) : Ok sc i pc lv (st) w cap scap Φ := by
  intro p l e R s m args below meth c H locs cells slots Q D aC o ls C hsc ho hR hS hl hc hk
  obtain ⟨hd, rfl, -⟩ := ck_dec hf rfl
  exact lv_fconst1 C.1 C.2.1 hd  (h p l e R s m args below meth c H locs cells slots Q D aC o ls C hsc ho hR hS hl hc hk)
theorem r_fconst2  (hf : fetch i pc = some (.fconst 2, nx, a, b, ws, cv))  (h : Ok sc i nx lv (.float FP.fconst2 :: st) w cap scap Φ) : Ok sc i pc lv (st) w cap scap Φ := by
  intro p l e R s m args below meth c H locs cells slots Q D aC o ls C hsc ho hR hS hl hc hk
  obtain ⟨hd, rfl, -⟩ := ck_dec hf rfl
  exact lv_fconst2 C.1 C.2.1 hd  (h p l e R s m args below meth c H locs cells slots Q D aC o ls C hsc ho hR hS hl hc hk)
theorem r_null  (hf : fetch i pc = some (.aconst_null, nx, a, b, ws, cv))  (h : Ok sc i nx lv (.null :: st) w cap scap Φ) : Ok sc i pc lv (st) w cap scap Φ := by
  intro p l e R s m args below meth c H locs cells slots Q D aC o ls C hsc ho hR hS hl hc hk
  obtain ⟨hd, rfl, -⟩ := ck_dec hf rfl
  exact lv_null C.1 C.2.1 hd  (h p l e R s m args below meth c H locs cells slots Q D aC o ls C hsc ho hR hS hl hc hk)
theorem r_dup {v : Value} (hf : fetch i pc = some (.dup, nx, a, b, ws, cv)) (hv : v.category = 1) (h : Ok sc i nx lv (v :: v :: st) w cap scap Φ) : Ok sc i pc lv (v :: st) w cap scap Φ := by
  intro p l e R s m args below meth c H locs cells slots Q D aC o ls C hsc ho hR hS hl hc hk
  obtain ⟨hd, rfl, -⟩ := ck_dec hf rfl
  exact lv_dup C.1 C.2.1 hd ((tr_cat o v).trans hv) (h p l e R s m args below meth c H locs cells slots Q D aC o ls C hsc ho hR hS hl hc hk)
theorem r_dup2 {v u : Value} (hf : fetch i pc = some (.dup2, nx, a, b, ws, cv)) (hv : v.category = 1) (hu : u.category = 1) (h : Ok sc i nx lv (v :: u :: v :: u :: st) w cap scap Φ) : Ok sc i pc lv (v :: u :: st) w cap scap Φ := by
  intro p l e R s m args below meth c H locs cells slots Q D aC o ls C hsc ho hR hS hl hc hk
  obtain ⟨hd, rfl, -⟩ := ck_dec hf rfl
  exact lv_dup2_11 C.1 C.2.1 hd ((tr_cat o v).trans hv) ((tr_cat o u).trans hu) (h p l e R s m args below meth c H locs cells slots Q D aC o ls C hsc ho hR hS hl hc hk)
theorem r_iload_n {k : Fin 4} {x : Int32} (hf : fetch i pc = some (.iload_n k, nx, a, b, ws, cv)) (hv : lv[(k : Nat)]? = some (some (.int x))) (h : Ok sc i nx lv (.int x :: st) w cap scap Φ) : Ok sc i pc lv (st) w cap scap Φ := by
  intro p l e R s m args below meth c H locs cells slots Q D aC o ls C hsc ho hR hS hl hc hk
  obtain ⟨hd, rfl, -⟩ := ck_dec hf rfl
  exact lv_iload_n C.1 C.2.1 hd rfl (lvA_at hl hv) (h p l e R s m args below meth c H locs cells slots Q D aC o ls C hsc ho hR hS hl hc hk)
theorem r_iload {k : Nat} {x : Int32} (hf : fetch i pc = some (.iload k, nx, a, b, ws, cv)) (hv : lv[k]? = some (some (.int x))) (h : Ok sc i nx lv (.int x :: st) w cap scap Φ) : Ok sc i pc lv (st) w cap scap Φ := by
  intro p l e R s m args below meth c H locs cells slots Q D aC o ls C hsc ho hR hS hl hc hk
  obtain ⟨hd, rfl, -⟩ := ck_dec hf rfl
  exact lv_iload C.1 C.2.1 hd (lvA_at hl hv) (h p l e R s m args below meth c H locs cells slots Q D aC o ls C hsc ho hR hS hl hc hk)
theorem r_lload_n {k : Fin 4} {x : Int64} (hf : fetch i pc = some (.lload_n k, nx, a, b, ws, cv)) (hv : lv[(k : Nat)]? = some (some (.long x))) (h : Ok sc i nx lv (.long x :: st) w cap scap Φ) : Ok sc i pc lv (st) w cap scap Φ := by
  intro p l e R s m args below meth c H locs cells slots Q D aC o ls C hsc ho hR hS hl hc hk
  obtain ⟨hd, rfl, -⟩ := ck_dec hf rfl
  exact lv_lload_n C.1 C.2.1 hd rfl (lvA_at hl hv) (h p l e R s m args below meth c H locs cells slots Q D aC o ls C hsc ho hR hS hl hc hk)
theorem r_fload_n {k : Fin 4} {x : UInt32} (hf : fetch i pc = some (.fload_n k, nx, a, b, ws, cv)) (hv : lv[(k : Nat)]? = some (some (.float x))) (h : Ok sc i nx lv (.float x :: st) w cap scap Φ) : Ok sc i pc lv (st) w cap scap Φ := by
  intro p l e R s m args below meth c H locs cells slots Q D aC o ls C hsc ho hR hS hl hc hk
  obtain ⟨hd, rfl, -⟩ := ck_dec hf rfl
  exact lv_fload_n C.1 C.2.1 hd rfl (lvA_at hl hv) (h p l e R s m args below meth c H locs cells slots Q D aC o ls C hsc ho hR hS hl hc hk)
theorem r_aload_n {k : Fin 4} {x : Nat} (hf : fetch i pc = some (.aload_n k, nx, a, b, ws, cv)) (hv : lv[(k : Nat)]? = some (some (.ref x))) (h : Ok sc i nx lv (.ref x :: st) w cap scap Φ) : Ok sc i pc lv (st) w cap scap Φ := by
  intro p l e R s m args below meth c H locs cells slots Q D aC o ls C hsc ho hR hS hl hc hk
  obtain ⟨hd, rfl, -⟩ := ck_dec hf rfl
  exact lv_aload_n C.1 C.2.1 hd rfl (lvA_at hl hv) (h p l e R s m args below meth c H locs cells slots Q D aC o ls C hsc ho hR hS hl hc hk)
theorem r_aload {k : Nat} {x : Nat} (hf : fetch i pc = some (.aload k, nx, a, b, ws, cv)) (hv : lv[k]? = some (some (.ref x))) (h : Ok sc i nx lv (.ref x :: st) w cap scap Φ) : Ok sc i pc lv (st) w cap scap Φ := by
  intro p l e R s m args below meth c H locs cells slots Q D aC o ls C hsc ho hR hS hl hc hk
  obtain ⟨hd, rfl, -⟩ := ck_dec hf rfl
  exact lv_aload C.1 C.2.1 hd (lvA_at hl hv) (h p l e R s m args below meth c H locs cells slots Q D aC o ls C hsc ho hR hS hl hc hk)
theorem r_aload_nN {k : Fin 4} (hf : fetch i pc = some (.aload_n k, nx, a, b, ws, cv)) (hv : lv[(k : Nat)]? = some (some .null)) (h : Ok sc i nx lv (.null :: st) w cap scap Φ) : Ok sc i pc lv (st) w cap scap Φ := by
  intro p l e R s m args below meth c H locs cells slots Q D aC o ls C hsc ho hR hS hl hc hk
  obtain ⟨hd, rfl, -⟩ := ck_dec hf rfl
  exact lv_aload_nN C.1 C.2.1 hd rfl (lvA_at hl hv) (h p l e R s m args below meth c H locs cells slots Q D aC o ls C hsc ho hR hS hl hc hk)
theorem r_istore_n {k : Fin 4} {x : Int32} (hf : fetch i pc = some (.istore_n k, nx, a, b, ws, cv)) (hn : (k : Nat) < mMax i) (hg : stG lv (k : Nat) = true) (h : Ok sc i nx (lv.set (k : Nat) (some (.int x))) st w cap scap Φ) : Ok sc i pc lv (.int x :: st) w cap scap Φ := by
  intro p l e R s m args below meth c H locs cells slots Q D aC o ls C hsc ho hR hS hl hc hk
  obtain ⟨hd, rfl, -⟩ := ck_dec hf rfl
  exact lv_istore_n C.1 C.2.1 hd rfl hl hn rfl (fun ls' hl' => h p l e R s m args below meth c H locs cells slots Q D aC o ls' C hsc ho hR hS (lvA_st1 (v := .int x) hg hl') hc hk)
theorem r_istore {k : Nat} {x : Int32} (hf : fetch i pc = some (.istore k, nx, a, b, ws, cv)) (hn : k < mMax i) (hg : stG lv k = true) (h : Ok sc i nx (lv.set k (some (.int x))) st w cap scap Φ) : Ok sc i pc lv (.int x :: st) w cap scap Φ := by
  intro p l e R s m args below meth c H locs cells slots Q D aC o ls C hsc ho hR hS hl hc hk
  obtain ⟨hd, rfl, -⟩ := ck_dec hf rfl
  exact lv_istore C.1 C.2.1 hd  hl hn rfl (fun ls' hl' => h p l e R s m args below meth c H locs cells slots Q D aC o ls' C hsc ho hR hS (lvA_st1 (v := .int x) hg hl') hc hk)
theorem r_astore_n {k : Fin 4} {x : Nat} (hf : fetch i pc = some (.astore_n k, nx, a, b, ws, cv)) (hn : (k : Nat) < mMax i) (hg : stG lv (k : Nat) = true) (h : Ok sc i nx (lv.set (k : Nat) (some (.ref x))) st w cap scap Φ) : Ok sc i pc lv (.ref x :: st) w cap scap Φ := by
  intro p l e R s m args below meth c H locs cells slots Q D aC o ls C hsc ho hR hS hl hc hk
  obtain ⟨hd, rfl, -⟩ := ck_dec hf rfl
  exact lv_astore_n C.1 C.2.1 hd rfl hl hn rfl (fun ls' hl' => h p l e R s m args below meth c H locs cells slots Q D aC o ls' C hsc ho hR hS (lvA_st1 (v := .ref x) hg hl') hc hk)
theorem r_astore_nN {k : Fin 4} (hf : fetch i pc = some (.astore_n k, nx, a, b, ws, cv)) (hn : (k : Nat) < mMax i) (hg : stG lv (k : Nat) = true) (h : Ok sc i nx (lv.set (k : Nat) (some (.null))) st w cap scap Φ) : Ok sc i pc lv (.null :: st) w cap scap Φ := by
  intro p l e R s m args below meth c H locs cells slots Q D aC o ls C hsc ho hR hS hl hc hk
  obtain ⟨hd, rfl, -⟩ := ck_dec hf rfl
  exact lv_astore_nN C.1 C.2.1 hd rfl hl hn rfl (fun ls' hl' => h p l e R s m args below meth c H locs cells slots Q D aC o ls' C hsc ho hR hS (lvA_st1 (v := .null) hg hl') hc hk)
theorem r_astore {k : Nat} {x : Nat} (hf : fetch i pc = some (.astore k, nx, a, b, ws, cv)) (hn : k < mMax i) (hg : stG lv k = true) (h : Ok sc i nx (lv.set k (some (.ref x))) st w cap scap Φ) : Ok sc i pc lv (.ref x :: st) w cap scap Φ := by
  intro p l e R s m args below meth c H locs cells slots Q D aC o ls C hsc ho hR hS hl hc hk
  obtain ⟨hd, rfl, -⟩ := ck_dec hf rfl
  exact lv_astore C.1 C.2.1 hd  hl hn rfl (fun ls' hl' => h p l e R s m args below meth c H locs cells slots Q D aC o ls' C hsc ho hR hS (lvA_st1 (v := .ref x) hg hl') hc hk)
theorem r_fstore_n {k : Fin 4} {x : UInt32} (hf : fetch i pc = some (.fstore_n k, nx, a, b, ws, cv)) (hn : (k : Nat) < mMax i) (hg : stG lv (k : Nat) = true) (h : Ok sc i nx (lv.set (k : Nat) (some (.float x))) st w cap scap Φ) : Ok sc i pc lv (.float x :: st) w cap scap Φ := by
  intro p l e R s m args below meth c H locs cells slots Q D aC o ls C hsc ho hR hS hl hc hk
  obtain ⟨hd, rfl, -⟩ := ck_dec hf rfl
  exact lv_fstore_n C.1 C.2.1 hd rfl hl hn rfl (fun ls' hl' => h p l e R s m args below meth c H locs cells slots Q D aC o ls' C hsc ho hR hS (lvA_st1 (v := .float x) hg hl') hc hk)
theorem r_lstore_n {k : Fin 4} {x : Int64} (hf : fetch i pc = some (.lstore_n k, nx, a, b, ws, cv)) (hn : (k : Nat) + 1 < mMax i) (hg : stG lv (k : Nat) = true) (h : Ok sc i nx ((lv.set (k : Nat) (some (.long x))).set ((k : Nat) + 1) none) st w cap scap Φ) : Ok sc i pc lv (.long x :: st) w cap scap Φ := by
  intro p l e R s m args below meth c H locs cells slots Q D aC o ls C hsc ho hR hS hl hc hk
  obtain ⟨hd, rfl, -⟩ := ck_dec hf rfl
  exact lv_lstore_n C.1 C.2.1 hd rfl hl hn rfl (fun ls' hl' => h p l e R s m args below meth c H locs cells slots Q D aC o ls' C hsc ho hR hS (lvA_st2 (v := .long x) hg hl') hc hk)
theorem r_iinc {k : Nat} {n : Int} {x : Int32} (hf : fetch i pc = some (.iinc k n, nx, a, b, ws, cv)) (hv : lv[k]? = some (some (.int x))) (hn : k < mMax i) (hg : stG lv k = true) (h : Ok sc i nx (lv.set k (some (.int (x + Int32.ofInt n)))) st w cap scap Φ) : Ok sc i pc lv st w cap scap Φ := by
  intro p l e R s m args below meth c H locs cells slots Q D aC o ls C hsc ho hR hS hl hc hk
  obtain ⟨hd, rfl, -⟩ := ck_dec hf rfl
  obtain ⟨q, hq⟩ := List.getElem?_of_mem (lvA_mem (o := o).mpr ⟨_, hv, rfl⟩)
  exact lv_iinc C.1 C.2.1 hd hl hq rfl hn rfl (fun ls' hl' => h p l e R s m args below meth c H locs cells slots Q D aC o ls' C hsc ho hR hS (lvA_st1 (v := .int (x + Int32.ofInt n)) hg hl') hc hk)
theorem r_goto {off : Int} (hf : fetch i pc = some (.goto off, nx, a, b, ws, cv)) (h : Ok sc i a lv st w cap scap Φ) : Ok sc i pc lv st w cap scap Φ := by
  intro p l e R s m args below meth c H locs cells slots Q D aC o ls C hsc ho hR hS hl hc hk
  obtain ⟨hd, rfl, ht⟩ := ck_dec hf rfl
  exact lv_goto C.1 C.2.1 hd (of_decide_eq_true ht) (h p l e R s m args below meth c H locs cells slots Q D aC o ls C hsc ho hR hS hl hc hk)
theorem r_icmp_eq {x y : Int32} {off : Int} (hf : fetch i pc = some (.if_icmp .eq off, nx, a, b, ws, cv)) (ht : x = y → Ok sc i a lv st w cap scap Φ) (hn : ¬ x = y → Ok sc i nx lv st w cap scap Φ) : Ok sc i pc lv (.int y :: .int x :: st) w cap scap Φ := by
  intro p l e R s m args below meth c H locs cells slots Q D aC o ls C hsc ho hR hS hl hc hk
  obtain ⟨hd, rfl, hg⟩ := ck_dec hf rfl
  exact lv_icmp_eq C.1 C.2.1 hd (of_decide_eq_true hg) (fun q => ht q p l e R s m args below meth c H locs cells slots Q D aC o ls C hsc ho hR hS hl hc hk) (fun q => hn q p l e R s m args below meth c H locs cells slots Q D aC o ls C hsc ho hR hS hl hc hk)
theorem r_if_eq {x : Int32} {off : Int} (hf : fetch i pc = some (.ifCond .eq off, nx, a, b, ws, cv)) (ht : x = 0 → Ok sc i a lv st w cap scap Φ) (hn : ¬ x = 0 → Ok sc i nx lv st w cap scap Φ) : Ok sc i pc lv (.int x :: st) w cap scap Φ := by
  intro p l e R s m args below meth c H locs cells slots Q D aC o ls C hsc ho hR hS hl hc hk
  obtain ⟨hd, rfl, hg⟩ := ck_dec hf rfl
  exact lv_if_eq C.1 C.2.1 hd (of_decide_eq_true hg) (fun q => ht q p l e R s m args below meth c H locs cells slots Q D aC o ls C hsc ho hR hS hl hc hk) (fun q => hn q p l e R s m args below meth c H locs cells slots Q D aC o ls C hsc ho hR hS hl hc hk)
theorem r_icmp_ne {x y : Int32} {off : Int} (hf : fetch i pc = some (.if_icmp .ne off, nx, a, b, ws, cv)) (ht : ¬ x = y → Ok sc i a lv st w cap scap Φ) (hn : x = y → Ok sc i nx lv st w cap scap Φ) : Ok sc i pc lv (.int y :: .int x :: st) w cap scap Φ := by
  intro p l e R s m args below meth c H locs cells slots Q D aC o ls C hsc ho hR hS hl hc hk
  obtain ⟨hd, rfl, hg⟩ := ck_dec hf rfl
  exact lv_icmp_ne C.1 C.2.1 hd (of_decide_eq_true hg) (fun q => ht q p l e R s m args below meth c H locs cells slots Q D aC o ls C hsc ho hR hS hl hc hk) (fun q => hn q p l e R s m args below meth c H locs cells slots Q D aC o ls C hsc ho hR hS hl hc hk)
theorem r_if_ne {x : Int32} {off : Int} (hf : fetch i pc = some (.ifCond .ne off, nx, a, b, ws, cv)) (ht : ¬ x = 0 → Ok sc i a lv st w cap scap Φ) (hn : x = 0 → Ok sc i nx lv st w cap scap Φ) : Ok sc i pc lv (.int x :: st) w cap scap Φ := by
  intro p l e R s m args below meth c H locs cells slots Q D aC o ls C hsc ho hR hS hl hc hk
  obtain ⟨hd, rfl, hg⟩ := ck_dec hf rfl
  exact lv_if_ne C.1 C.2.1 hd (of_decide_eq_true hg) (fun q => ht q p l e R s m args below meth c H locs cells slots Q D aC o ls C hsc ho hR hS hl hc hk) (fun q => hn q p l e R s m args below meth c H locs cells slots Q D aC o ls C hsc ho hR hS hl hc hk)
theorem r_icmp_lt {x y : Int32} {off : Int} (hf : fetch i pc = some (.if_icmp .lt off, nx, a, b, ws, cv)) (ht : x < y → Ok sc i a lv st w cap scap Φ) (hn : ¬ x < y → Ok sc i nx lv st w cap scap Φ) : Ok sc i pc lv (.int y :: .int x :: st) w cap scap Φ := by
  intro p l e R s m args below meth c H locs cells slots Q D aC o ls C hsc ho hR hS hl hc hk
  obtain ⟨hd, rfl, hg⟩ := ck_dec hf rfl
  exact lv_icmp_lt C.1 C.2.1 hd (of_decide_eq_true hg) (fun q => ht q p l e R s m args below meth c H locs cells slots Q D aC o ls C hsc ho hR hS hl hc hk) (fun q => hn q p l e R s m args below meth c H locs cells slots Q D aC o ls C hsc ho hR hS hl hc hk)
theorem r_if_lt {x : Int32} {off : Int} (hf : fetch i pc = some (.ifCond .lt off, nx, a, b, ws, cv)) (ht : x < 0 → Ok sc i a lv st w cap scap Φ) (hn : ¬ x < 0 → Ok sc i nx lv st w cap scap Φ) : Ok sc i pc lv (.int x :: st) w cap scap Φ := by
  intro p l e R s m args below meth c H locs cells slots Q D aC o ls C hsc ho hR hS hl hc hk
  obtain ⟨hd, rfl, hg⟩ := ck_dec hf rfl
  exact lv_if_lt C.1 C.2.1 hd (of_decide_eq_true hg) (fun q => ht q p l e R s m args below meth c H locs cells slots Q D aC o ls C hsc ho hR hS hl hc hk) (fun q => hn q p l e R s m args below meth c H locs cells slots Q D aC o ls C hsc ho hR hS hl hc hk)
theorem r_icmp_ge {x y : Int32} {off : Int} (hf : fetch i pc = some (.if_icmp .ge off, nx, a, b, ws, cv)) (ht : y ≤ x → Ok sc i a lv st w cap scap Φ) (hn : ¬ y ≤ x → Ok sc i nx lv st w cap scap Φ) : Ok sc i pc lv (.int y :: .int x :: st) w cap scap Φ := by
  intro p l e R s m args below meth c H locs cells slots Q D aC o ls C hsc ho hR hS hl hc hk
  obtain ⟨hd, rfl, hg⟩ := ck_dec hf rfl
  exact lv_icmp_ge C.1 C.2.1 hd (of_decide_eq_true hg) (fun q => ht q p l e R s m args below meth c H locs cells slots Q D aC o ls C hsc ho hR hS hl hc hk) (fun q => hn q p l e R s m args below meth c H locs cells slots Q D aC o ls C hsc ho hR hS hl hc hk)
theorem r_if_ge {x : Int32} {off : Int} (hf : fetch i pc = some (.ifCond .ge off, nx, a, b, ws, cv)) (ht : 0 ≤ x → Ok sc i a lv st w cap scap Φ) (hn : ¬ 0 ≤ x → Ok sc i nx lv st w cap scap Φ) : Ok sc i pc lv (.int x :: st) w cap scap Φ := by
  intro p l e R s m args below meth c H locs cells slots Q D aC o ls C hsc ho hR hS hl hc hk
  obtain ⟨hd, rfl, hg⟩ := ck_dec hf rfl
  exact lv_if_ge C.1 C.2.1 hd (of_decide_eq_true hg) (fun q => ht q p l e R s m args below meth c H locs cells slots Q D aC o ls C hsc ho hR hS hl hc hk) (fun q => hn q p l e R s m args below meth c H locs cells slots Q D aC o ls C hsc ho hR hS hl hc hk)
theorem r_icmp_gt {x y : Int32} {off : Int} (hf : fetch i pc = some (.if_icmp .gt off, nx, a, b, ws, cv)) (ht : y < x → Ok sc i a lv st w cap scap Φ) (hn : ¬ y < x → Ok sc i nx lv st w cap scap Φ) : Ok sc i pc lv (.int y :: .int x :: st) w cap scap Φ := by
  intro p l e R s m args below meth c H locs cells slots Q D aC o ls C hsc ho hR hS hl hc hk
  obtain ⟨hd, rfl, hg⟩ := ck_dec hf rfl
  exact lv_icmp_gt C.1 C.2.1 hd (of_decide_eq_true hg) (fun q => ht q p l e R s m args below meth c H locs cells slots Q D aC o ls C hsc ho hR hS hl hc hk) (fun q => hn q p l e R s m args below meth c H locs cells slots Q D aC o ls C hsc ho hR hS hl hc hk)
theorem r_if_gt {x : Int32} {off : Int} (hf : fetch i pc = some (.ifCond .gt off, nx, a, b, ws, cv)) (ht : 0 < x → Ok sc i a lv st w cap scap Φ) (hn : ¬ 0 < x → Ok sc i nx lv st w cap scap Φ) : Ok sc i pc lv (.int x :: st) w cap scap Φ := by
  intro p l e R s m args below meth c H locs cells slots Q D aC o ls C hsc ho hR hS hl hc hk
  obtain ⟨hd, rfl, hg⟩ := ck_dec hf rfl
  exact lv_if_gt C.1 C.2.1 hd (of_decide_eq_true hg) (fun q => ht q p l e R s m args below meth c H locs cells slots Q D aC o ls C hsc ho hR hS hl hc hk) (fun q => hn q p l e R s m args below meth c H locs cells slots Q D aC o ls C hsc ho hR hS hl hc hk)
theorem r_icmp_le {x y : Int32} {off : Int} (hf : fetch i pc = some (.if_icmp .le off, nx, a, b, ws, cv)) (ht : x ≤ y → Ok sc i a lv st w cap scap Φ) (hn : ¬ x ≤ y → Ok sc i nx lv st w cap scap Φ) : Ok sc i pc lv (.int y :: .int x :: st) w cap scap Φ := by
  intro p l e R s m args below meth c H locs cells slots Q D aC o ls C hsc ho hR hS hl hc hk
  obtain ⟨hd, rfl, hg⟩ := ck_dec hf rfl
  exact lv_icmp_le C.1 C.2.1 hd (of_decide_eq_true hg) (fun q => ht q p l e R s m args below meth c H locs cells slots Q D aC o ls C hsc ho hR hS hl hc hk) (fun q => hn q p l e R s m args below meth c H locs cells slots Q D aC o ls C hsc ho hR hS hl hc hk)
theorem r_if_le {x : Int32} {off : Int} (hf : fetch i pc = some (.ifCond .le off, nx, a, b, ws, cv)) (ht : x ≤ 0 → Ok sc i a lv st w cap scap Φ) (hn : ¬ x ≤ 0 → Ok sc i nx lv st w cap scap Φ) : Ok sc i pc lv (.int x :: st) w cap scap Φ := by
  intro p l e R s m args below meth c H locs cells slots Q D aC o ls C hsc ho hR hS hl hc hk
  obtain ⟨hd, rfl, hg⟩ := ck_dec hf rfl
  exact lv_if_le C.1 C.2.1 hd (of_decide_eq_true hg) (fun q => ht q p l e R s m args below meth c H locs cells slots Q D aC o ls C hsc ho hR hS hl hc hk) (fun q => hn q p l e R s m args below meth c H locs cells slots Q D aC o ls C hsc ho hR hS hl hc hk)
theorem r_ifnonnull {x : Nat} {off : Int} (hf : fetch i pc = some (.ifnonnull off, nx, a, b, ws, cv)) (h : Ok sc i a lv st w cap scap Φ) : Ok sc i pc lv (.ref x :: st) w cap scap Φ := by
  intro p l e R s m args below meth c H locs cells slots Q D aC o ls C hsc ho hR hS hl hc hk
  obtain ⟨hd, rfl, hg⟩ := ck_dec hf rfl
  exact lv_ifnonnull C.1 C.2.1 hd (of_decide_eq_true hg) (h p l e R s m args below meth c H locs cells slots Q D aC o ls C hsc ho hR hS hl hc hk)
theorem r_ifnonnullN {off : Int} (hf : fetch i pc = some (.ifnonnull off, nx, a, b, ws, cv)) (h : Ok sc i nx lv st w cap scap Φ) : Ok sc i pc lv (.null :: st) w cap scap Φ := by
  intro p l e R s m args below meth c H locs cells slots Q D aC o ls C hsc ho hR hS hl hc hk
  obtain ⟨hd, rfl, hg⟩ := ck_dec hf rfl
  exact lv_ifnonnullN C.1 C.2.1 hd (h p l e R s m args below meth c H locs cells slots Q D aC o ls C hsc ho hR hS hl hc hk)
theorem r_swOut {dflt lo hi : Int} {offs : Array Int} {x : Int32} {tgt : Nat} (hf : fetch i pc = some (.tableswitch dflt lo hi offs, nx, a, b, ws, cv)) (hx : x.toInt < lo ∨ hi < x.toInt) (ht : (pc : Int) + dflt = (tgt : Int)) (h : Ok sc i tgt lv st w cap scap Φ) : Ok sc i pc lv (.int x :: st) w cap scap Φ := by
  intro p l e R s m args below meth c H locs cells slots Q D aC o ls C hsc ho hR hS hl hc hk
  exact lv_tableOut C.1 C.2.1 (ck_sw hf) hx ht (h p l e R s m args below meth c H locs cells slots Q D aC o ls C hsc ho hR hS hl hc hk)
theorem r_swIn {dflt lo hi off : Int} {offs : Array Int} {x : Int32} {tgt : Nat} (hf : fetch i pc = some (.tableswitch dflt lo hi offs, nx, a, b, ws, cv)) (h1 : ¬ x.toInt < lo) (h2 : ¬ hi < x.toInt) (h3 : offs[(x.toInt - lo).toNat]? = some off) (ht : (pc : Int) + off = (tgt : Int)) (h : Ok sc i tgt lv st w cap scap Φ) : Ok sc i pc lv (.int x :: st) w cap scap Φ := by
  intro p l e R s m args below meth c H locs cells slots Q D aC o ls C hsc ho hR hS hl hc hk
  exact lv_tableIn C.1 C.2.1 (ck_sw hf) h1 h2 h3 ht (h p l e R s m args below meth c H locs cells slots Q D aC o ls C hsc ho hR hS hl hc hk)
theorem r_ldc {v : Int32} {idx w1 : Nat} (hf : fetch i pc = some (.ldc idx, nx, a, b, [w1], .int v)) (h : Ok sc i nx lv (.int v :: st) w cap scap Φ) : Ok sc i pc lv st w cap scap Φ := by
  intro p l e R s m args below meth c H locs cells slots Q D aC o ls C hsc ho hR hS hl hc hk
  obtain ⟨hd, rfl, hg⟩ := ck_dec hf rfl
  exact lv_ldc C.1 C.2.1 C.2.2.2.2.1 (C.2.2.2.2.2.1 _ (wk_mem hg)) hd (h p l e R s m args below meth c H locs cells slots Q D aC o ls C hsc ho hR hS hl hc hk)
theorem r_ldcf {v : UInt32} {idx w1 : Nat} (hf : fetch i pc = some (.ldc idx, nx, a, b, [w1], .float v)) (h : Ok sc i nx lv (.float v :: st) w cap scap Φ) : Ok sc i pc lv st w cap scap Φ := by
  intro p l e R s m args below meth c H locs cells slots Q D aC o ls C hsc ho hR hS hl hc hk
  obtain ⟨hd, rfl, hg⟩ := ck_dec hf rfl
  exact lv_ldcf C.1 C.2.1 C.2.2.2.2.1 (C.2.2.2.2.2.1 _ (wk_mem hg)) hd (h p l e R s m args below meth c H locs cells slots Q D aC o ls C hsc ho hR hS hl hc hk)
theorem r_ldc2 {v : Int64} {idx w1 : Nat} (hf : fetch i pc = some (.ldc2_w idx, nx, a, b, [w1], .long v)) (h : Ok sc i nx lv (.long v :: st) w cap scap Φ) : Ok sc i pc lv st w cap scap Φ := by
  intro p l e R s m args below meth c H locs cells slots Q D aC o ls C hsc ho hR hS hl hc hk
  obtain ⟨hd, rfl, hg⟩ := ck_dec hf rfl
  exact lv_ldc2 C.1 C.2.1 C.2.2.2.2.1 (C.2.2.2.2.2.1 _ (wk_mem hg)) hd (h p l e R s m args below meth c H locs cells slots Q D aC o ls C hsc ho hR hS hl hc hk)
theorem r_iret {x : Int32} {ty : FieldType} (hf : fetch i pc = some (.ireturn, nx, a, b, ws, cv)) (hty : mRet i = some ty) (hn : narrow ty (.int x) = .int x) (hΦ : Φ (some (.int x)) w) : Ok sc i pc lv [.int x] w cap scap Φ := by
  intro p l e R s m args below meth c H locs cells slots Q D aC o ls C hsc ho hR hS hl hc hk
  obtain ⟨hd, -, -⟩ := ck_dec hf rfl
  exact hk _ w pc H locs ls cells slots hΦ (Or.inl ⟨x, ty, rfl, hty, hn, hd⟩) hR hS rfl rfl
theorem r_lret {x : Int64} (hf : fetch i pc = some (.lreturn, nx, a, b, ws, cv)) (hty : mRet i = some .long) (hΦ : Φ (some (.long x)) w) : Ok sc i pc lv [.long x] w cap scap Φ := by
  intro p l e R s m args below meth c H locs cells slots Q D aC o ls C hsc ho hR hS hl hc hk
  obtain ⟨hd, -, -⟩ := ck_dec hf rfl
  exact hk _ w pc H locs ls cells slots hΦ (Or.inr (Or.inl ⟨x, rfl, hty, hd⟩)) hR hS rfl rfl
theorem r_vret (hf : fetch i pc = some (.return_, nx, a, b, ws, cv)) (hty : mRet i = none) (hΦ : Φ none w) : Ok sc i pc lv [] w cap scap Φ := by
  intro p l e R s m args below meth c H locs cells slots Q D aC o ls C hsc ho hR hS hl hc hk
  obtain ⟨hd, -, -⟩ := ck_dec hf rfl
  exact hk _ w pc H locs ls cells slots hΦ (Or.inr (Or.inr (Or.inl ⟨rfl, hty, hd⟩))) hR hS rfl rfl
theorem r_aret {v : Value} {rt : FieldType} (hf : fetch i pc = some (.areturn, nx, a, b, ws, cv)) (hty : mRet i = some rt) (hrt : (∃ n, rt = .object n) ∨ ∃ t, rt = .array t) (hv : v = .null ∨ ∃ k, v = .ref k) (hΦ : Φ (some v) w) : Ok sc i pc lv [v] w cap scap Φ := by
  intro p l e R s m args below meth c H locs cells slots Q D aC o ls C hsc ho hR hS hl hc hk
  obtain ⟨hd, -, -⟩ := ck_dec hf rfl
  exact hk _ w pc H locs ls cells slots hΦ (Or.inr (Or.inr (Or.inr ⟨v, rt, rfl, hv, hty, hrt, hd⟩))) hR hS rfl rfl
end RULES
