/-! rules over the world behind the constructors: every int is I of an Int -/
abbrev ZΦ : Type := Option Value → ZW → Int64 → Prop
def OkZ (sc : Option (Nat × (Nat → Int32))) (i pc : Nat) (lv : List (Option Value)) (st : List Value) (Z : ZW) (J : Int64) (Φ : ZΦ) : Prop := Ok sc i pc lv st (lay Z J) 80 2169 (fun r w' => ∃ Z' J', w' = lay Z' J' ∧ Φ r Z' J')
def padL (a : Nat) (vs : List Value) : List (Option Value) := argL vs ++ List.replicate (mMax a - (argL vs).length) none
/-- method a, called with vs over Z and J, returns with Ψ -/
def Mz (a : Nat) (vs : List Value) (Z : ZW) (J : Int64) (Ψ : ZΦ) : Prop := OkZ none a 0 (padL a vs) [] Z J Ψ
/-- method a, called with vs over Z and J, returns r and leaves Z1 and J1 -/
def D (a : Nat) (vs : List Value) (Z : ZW) (J : Int64) (r : Option Value) (Z1 : ZW) (J1 : Int64) : Prop := Mz a vs Z J (fun r' Z' J' => r' = r ∧ Z' = Z1 ∧ J' = J1)
theorem Ok.pad {sc : Option (Nat × (Nat → Int32))} {i pc n : Nat} {lv : List (Option Value)} {st : List Value} {w : MW} {cap scap : Nat} {Φ : Option Value → MW → Prop} (h : Ok sc i pc (lv ++ List.replicate n none) st w cap scap Φ) : Ok sc i pc lv st w cap scap Φ := by
  intro p l e R s m args below meth c H locs cells slots Q D aC o ls C hsc ho hR hS hl hc hk
  refine h p l e R s m args below meth c H locs cells slots Q D aC o ls C hsc ho hR hS ⟨hl.1, hl.2.1, fun q hq => ?_⟩ hc hk
  obtain ⟨a, u⟩ := q
  obtain ⟨v0, h1, rfl⟩ := lvA_mem.mp hq
  refine hl.2.2 _ (lvA_mem.mpr ⟨v0, ?_, rfl⟩)
  rw [List.getElem?_append] at h1
  split at h1
  · exact h1
  · rw [List.getElem?_replicate] at h1
    split at h1 <;> cases h1
section ZR
variable {sc : Option (Nat × (Nat → Int32))} {i pc nx a b : Nat} {ws : List Nat} {cv : Value} {lv : List (Option Value)} {st : List Value} {Z : ZW} {J : Int64} {Φ : ZΦ}
theorem z_iadd {x y : Int} (hf : fetch i pc = some (.iadd, nx, a, b, ws, cv)) (h : OkZ sc i nx lv (.int (I (x + y)) :: st) Z J Φ) : OkZ sc i pc lv (.int (I y) :: .int (I x) :: st) Z J Φ := r_iadd hf (by rw [I_add]; exact h)
theorem z_isub {x y : Int} (hf : fetch i pc = some (.isub, nx, a, b, ws, cv)) (h : OkZ sc i nx lv (.int (I (x - y)) :: st) Z J Φ) : OkZ sc i pc lv (.int (I y) :: .int (I x) :: st) Z J Φ := r_isub hf (by rw [I_sub]; exact h)
theorem z_imul {x y : Int} (hf : fetch i pc = some (.imul, nx, a, b, ws, cv)) (h : OkZ sc i nx lv (.int (I (x * y)) :: st) Z J Φ) : OkZ sc i pc lv (.int (I y) :: .int (I x) :: st) Z J Φ := r_imul hf (by rw [I_mul]; exact h)
theorem z_ineg {x : Int} (hf : fetch i pc = some (.ineg, nx, a, b, ws, cv)) (h : OkZ sc i nx lv (.int (I (-x)) :: st) Z J Φ) : OkZ sc i pc lv (.int (I x) :: st) Z J Φ := r_ineg hf (by rw [I_neg]; exact h)
theorem z_iand {x y : Int32} {v : Int} (hf : fetch i pc = some (.iand, nx, a, b, ws, cv)) (hv : x &&& y = I v) (h : OkZ sc i nx lv (.int (I v) :: st) Z J Φ) : OkZ sc i pc lv (.int y :: .int x :: st) Z J Φ := r_iand hf (by rw [hv]; exact h)
theorem z_ior {x y : Int32} {v : Int} (hf : fetch i pc = some (.ior, nx, a, b, ws, cv)) (hv : x ||| y = I v) (h : OkZ sc i nx lv (.int (I v) :: st) Z J Φ) : OkZ sc i pc lv (.int y :: .int x :: st) Z J Φ := r_ior hf (by rw [hv]; exact h)
theorem z_ishl {x y : Int32} {v : Int} (hf : fetch i pc = some (.ishl, nx, a, b, ws, cv)) (hv : x <<< (y &&& 31) = I v) (h : OkZ sc i nx lv (.int (I v) :: st) Z J Φ) : OkZ sc i pc lv (.int y :: .int x :: st) Z J Φ := r_ishl hf (by rw [hv]; exact h)
theorem z_ishr {x y : Int32} {v : Int} (hf : fetch i pc = some (.ishr, nx, a, b, ws, cv)) (hv : x >>> (y &&& 31) = I v) (h : OkZ sc i nx lv (.int (I v) :: st) Z J Φ) : OkZ sc i pc lv (.int y :: .int x :: st) Z J Φ := r_ishr hf (by rw [hv]; exact h)
theorem z_idiv {x y : Int32} {v : Int} (hf : fetch i pc = some (.idiv, nx, a, b, ws, cv)) (hne : ¬ y = 0) (hv : x / y = I v) (h : OkZ sc i nx lv (.int (I v) :: st) Z J Φ) : OkZ sc i pc lv (.int y :: .int x :: st) Z J Φ := r_idiv hf hne (by rw [hv]; exact h)
theorem z_irem {x y : Int32} {v : Int} (hf : fetch i pc = some (.irem, nx, a, b, ws, cv)) (hne : ¬ y = 0) (hv : x - x / y * y = I v) (h : OkZ sc i nx lv (.int (I v) :: st) Z J Φ) : OkZ sc i pc lv (.int y :: .int x :: st) Z J Φ := r_irem hf hne (by rw [hv]; exact h)
theorem z_ladd {x y : Int64} (hf : fetch i pc = some (.ladd, nx, a, b, ws, cv)) (h : OkZ sc i nx lv (.long (x + y) :: st) Z J Φ) : OkZ sc i pc lv (.long y :: .long x :: st) Z J Φ := r_ladd hf h
theorem z_lmul {x y : Int64} (hf : fetch i pc = some (.lmul, nx, a, b, ws, cv)) (h : OkZ sc i nx lv (.long (x * y) :: st) Z J Φ) : OkZ sc i pc lv (.long y :: .long x :: st) Z J Φ := r_lmul hf h
theorem z_lcmp {x y : Int64} (hf : fetch i pc = some (.lcmp, nx, a, b, ws, cv)) (h : OkZ sc i nx lv (.int (lg_cmp x y) :: st) Z J Φ) : OkZ sc i pc lv (.long y :: .long x :: st) Z J Φ := r_lcmp hf h
theorem z_i2l {x : Int32} (hf : fetch i pc = some (.i2l, nx, a, b, ws, cv)) (h : OkZ sc i nx lv (.long x.toInt64 :: st) Z J Φ) : OkZ sc i pc lv (.int x :: st) Z J Φ := r_i2l hf h
theorem z_i2f {x : Int32} (hf : fetch i pc = some (.i2f, nx, a, b, ws, cv)) (h : OkZ sc i nx lv (.float (FP.i2f x) :: st) Z J Φ) : OkZ sc i pc lv (.int x :: st) Z J Φ := r_i2f hf h
theorem z_f2i {x : UInt32} (hf : fetch i pc = some (.f2i, nx, a, b, ws, cv)) (h : OkZ sc i nx lv (.int (FP.f2i x) :: st) Z J Φ) : OkZ sc i pc lv (.float x :: st) Z J Φ := r_f2i hf h
theorem z_fmul {x y : UInt32} (hf : fetch i pc = some (.fmul, nx, a, b, ws, cv)) (hne : vf_n32 (FP.fmul x y)) (h : OkZ sc i nx lv (.float (FP.fmul x y) :: st) Z J Φ) : OkZ sc i pc lv (.float y :: .float x :: st) Z J Φ := r_fmul hf hne h
theorem z_fdiv {x y : UInt32} (hf : fetch i pc = some (.fdiv, nx, a, b, ws, cv)) (hne : vf_n32 (FP.fdiv x y)) (h : OkZ sc i nx lv (.float (FP.fdiv x y) :: st) Z J Φ) : OkZ sc i pc lv (.float y :: .float x :: st) Z J Φ := r_fdiv hf hne h
theorem z_fsub {x y : UInt32} (hf : fetch i pc = some (.fsub, nx, a, b, ws, cv)) (hne : vf_n32 (FP.fsub x y)) (h : OkZ sc i nx lv (.float (FP.fsub x y) :: st) Z J Φ) : OkZ sc i pc lv (.float y :: .float x :: st) Z J Φ := r_fsub hf hne h
theorem z_fcmp {x y : UInt32} {op : CmpOp} (hf : fetch i pc = some (.fcmp op, nx, a, b, ws, cv)) (h : OkZ sc i nx lv (.int (Op.cmpValue (FP.fcmp x y) op) :: st) Z J Φ) : OkZ sc i pc lv (.float y :: .float x :: st) Z J Φ := r_fcmp hf h
theorem z_iconst {n : Int} (hf : fetch i pc = some (.iconst n, nx, a, b, ws, cv)) (h : OkZ sc i nx lv (.int (I n) :: st) Z J Φ) : OkZ sc i pc lv (st) Z J Φ := r_iconst hf h
theorem z_bipush {n : Int} (hf : fetch i pc = some (.bipush n, nx, a, b, ws, cv)) (hn : -128 ≤ n ∧ n ≤ 127) (h : OkZ sc i nx lv (.int (I n) :: st) Z J Φ) : OkZ sc i pc lv (st) Z J Φ := r_bipush hf (I_bi hn) h
theorem z_sipush {n : Int} (hf : fetch i pc = some (.sipush n, nx, a, b, ws, cv)) (hn : -32768 ≤ n ∧ n ≤ 32767) (h : OkZ sc i nx lv (.int (I n) :: st) Z J Φ) : OkZ sc i pc lv (st) Z J Φ := r_sipush hf (I_si hn) h
theorem z_fconst0  (hf : fetch i pc = some (.fconst 0, nx, a, b, ws, cv)) (h : OkZ sc i nx lv (.float FP.fconst0 :: st) Z J Φ) : OkZ sc i pc lv (st) Z J Φ := r_fconst0 hf h
theorem z_fconst1  (hf : fetch i pc = some (.fconst 1, nx, a, b, ws, cv)) (h : OkZ sc i nx lv (.float FP.fconst1 :: st) Z J Φ) : OkZ sc i pc lv (st) Z J Φ := r_fconst1 hf h
theorem z_fconst2  (hf : fetch i pc = some (.fconst 2, nx, a, b, ws, cv)) (h : OkZ sc i nx lv (.float FP.fconst2 :: st) Z J Φ) : OkZ sc i pc lv (st) Z J Φ := r_fconst2 hf h
theorem z_null  (hf : fetch i pc = some (.aconst_null, nx, a, b, ws, cv)) (h : OkZ sc i nx lv (.null :: st) Z J Φ) : OkZ sc i pc lv (st) Z J Φ := r_null hf h
theorem z_dup {v : Value} (hf : fetch i pc = some (.dup, nx, a, b, ws, cv)) (hv : v.category = 1) (h : OkZ sc i nx lv (v :: v :: st) Z J Φ) : OkZ sc i pc lv (v :: st) Z J Φ := r_dup hf hv h
theorem z_dup2 {v u : Value} (hf : fetch i pc = some (.dup2, nx, a, b, ws, cv)) (hv : v.category = 1) (hu : u.category = 1) (h : OkZ sc i nx lv (v :: u :: v :: u :: st) Z J Φ) : OkZ sc i pc lv (v :: u :: st) Z J Φ := r_dup2 hf hv hu h
theorem z_iload_n {k : Fin 4} {x : Int32} (hf : fetch i pc = some (.iload_n k, nx, a, b, ws, cv)) (hv : lv[(k : Nat)]? = some (some (.int x))) (h : OkZ sc i nx lv (.int x :: st) Z J Φ) : OkZ sc i pc lv (st) Z J Φ := r_iload_n hf hv h
theorem z_iload {k : Nat} {x : Int32} (hf : fetch i pc = some (.iload k, nx, a, b, ws, cv)) (hv : lv[k]? = some (some (.int x))) (h : OkZ sc i nx lv (.int x :: st) Z J Φ) : OkZ sc i pc lv (st) Z J Φ := r_iload hf hv h
theorem z_lload_n {k : Fin 4} {x : Int64} (hf : fetch i pc = some (.lload_n k, nx, a, b, ws, cv)) (hv : lv[(k : Nat)]? = some (some (.long x))) (h : OkZ sc i nx lv (.long x :: st) Z J Φ) : OkZ sc i pc lv (st) Z J Φ := r_lload_n hf hv h
theorem z_fload_n {k : Fin 4} {x : UInt32} (hf : fetch i pc = some (.fload_n k, nx, a, b, ws, cv)) (hv : lv[(k : Nat)]? = some (some (.float x))) (h : OkZ sc i nx lv (.float x :: st) Z J Φ) : OkZ sc i pc lv (st) Z J Φ := r_fload_n hf hv h
theorem z_aload_n {k : Fin 4} {x : Nat} (hf : fetch i pc = some (.aload_n k, nx, a, b, ws, cv)) (hv : lv[(k : Nat)]? = some (some (.ref x))) (h : OkZ sc i nx lv (.ref x :: st) Z J Φ) : OkZ sc i pc lv (st) Z J Φ := r_aload_n hf hv h
theorem z_aload {k : Nat} {x : Nat} (hf : fetch i pc = some (.aload k, nx, a, b, ws, cv)) (hv : lv[k]? = some (some (.ref x))) (h : OkZ sc i nx lv (.ref x :: st) Z J Φ) : OkZ sc i pc lv (st) Z J Φ := r_aload hf hv h
theorem z_aload_nN {k : Fin 4} (hf : fetch i pc = some (.aload_n k, nx, a, b, ws, cv)) (hv : lv[(k : Nat)]? = some (some .null)) (h : OkZ sc i nx lv (.null :: st) Z J Φ) : OkZ sc i pc lv (st) Z J Φ := r_aload_nN hf hv h
theorem z_istore_n {k : Fin 4} {x : Int32} (hf : fetch i pc = some (.istore_n k, nx, a, b, ws, cv)) (hn : Nat.blt (k : Nat) (mMax i) = true) (hg : stG lv (k : Nat) = true) (h : OkZ sc i nx (lv.set (k : Nat) (some (.int x))) (st) Z J Φ) : OkZ sc i pc lv (.int x :: st) Z J Φ := r_istore_n hf (Nat.le_of_ble_eq_true hn) hg h
theorem z_istore {k : Nat} {x : Int32} (hf : fetch i pc = some (.istore k, nx, a, b, ws, cv)) (hn : Nat.blt k (mMax i) = true) (hg : stG lv k = true) (h : OkZ sc i nx (lv.set k (some (.int x))) (st) Z J Φ) : OkZ sc i pc lv (.int x :: st) Z J Φ := r_istore hf (Nat.le_of_ble_eq_true hn) hg h
theorem z_astore_n {k : Fin 4} {x : Nat} (hf : fetch i pc = some (.astore_n k, nx, a, b, ws, cv)) (hn : Nat.blt (k : Nat) (mMax i) = true) (hg : stG lv (k : Nat) = true) (h : OkZ sc i nx (lv.set (k : Nat) (some (.ref x))) (st) Z J Φ) : OkZ sc i pc lv (.ref x :: st) Z J Φ := r_astore_n hf (Nat.le_of_ble_eq_true hn) hg h
theorem z_astore_nN {k : Fin 4} (hf : fetch i pc = some (.astore_n k, nx, a, b, ws, cv)) (hn : Nat.blt (k : Nat) (mMax i) = true) (hg : stG lv (k : Nat) = true) (h : OkZ sc i nx (lv.set (k : Nat) (some (.null))) (st) Z J Φ) : OkZ sc i pc lv (.null :: st) Z J Φ := r_astore_nN hf (Nat.le_of_ble_eq_true hn) hg h
theorem z_astore {k : Nat} {x : Nat} (hf : fetch i pc = some (.astore k, nx, a, b, ws, cv)) (hn : Nat.blt k (mMax i) = true) (hg : stG lv k = true) (h : OkZ sc i nx (lv.set k (some (.ref x))) (st) Z J Φ) : OkZ sc i pc lv (.ref x :: st) Z J Φ := r_astore hf (Nat.le_of_ble_eq_true hn) hg h
theorem z_fstore_n {k : Fin 4} {x : UInt32} (hf : fetch i pc = some (.fstore_n k, nx, a, b, ws, cv)) (hn : Nat.blt (k : Nat) (mMax i) = true) (hg : stG lv (k : Nat) = true) (h : OkZ sc i nx (lv.set (k : Nat) (some (.float x))) (st) Z J Φ) : OkZ sc i pc lv (.float x :: st) Z J Φ := r_fstore_n hf (Nat.le_of_ble_eq_true hn) hg h
theorem z_lstore_n {k : Fin 4} {x : Int64} (hf : fetch i pc = some (.lstore_n k, nx, a, b, ws, cv)) (hn : Nat.blt ((k : Nat) + 1) (mMax i) = true) (hg : stG lv (k : Nat) = true) (h : OkZ sc i nx ((lv.set (k : Nat) (some (.long x))).set ((k : Nat) + 1) none) (st) Z J Φ) : OkZ sc i pc lv (.long x :: st) Z J Φ := r_lstore_n hf (Nat.le_of_ble_eq_true hn) hg h
theorem z_iinc {k : Nat} {n x : Int} (hf : fetch i pc = some (.iinc k n, nx, a, b, ws, cv)) (hv : lv[k]? = some (some (.int (I x)))) (hn : Nat.blt k (mMax i) = true) (hg : stG lv k = true) (h : OkZ sc i nx (lv.set k (some (.int (I (x + n))))) (st) Z J Φ) : OkZ sc i pc lv (st) Z J Φ := r_iinc hf hv (Nat.le_of_ble_eq_true hn) hg (by rw [I_add]; exact h)
theorem z_goto {off : Int} (hf : fetch i pc = some (.goto off, nx, a, b, ws, cv)) (h : OkZ sc i a lv (st) Z J Φ) : OkZ sc i pc lv (st) Z J Φ := r_goto hf h
theorem z_icmp_eq {x y : Int} {off : Int} (hf : fetch i pc = some (.if_icmp .eq off, nx, a, b, ws, cv)) (hx : -2147483648 ≤ x ∧ x ≤ 2147483647) (hy : -2147483648 ≤ y ∧ y ≤ 2147483647) (ht : x = y → OkZ sc i a lv (st) Z J Φ) (hn : ¬ x = y → OkZ sc i nx lv (st) Z J Φ) : OkZ sc i pc lv (.int (I y) :: .int (I x) :: st) Z J Φ := r_icmp_eq hf (fun q => ht ((I_eq hx hy).mp q)) (fun q => hn (fun z => q ((I_eq hx hy).mpr z)))
theorem z_if_eq {x : Int} {off : Int} (hf : fetch i pc = some (.ifCond .eq off, nx, a, b, ws, cv)) (hx : -2147483648 ≤ x ∧ x ≤ 2147483647) (ht : x = 0 → OkZ sc i a lv (st) Z J Φ) (hn : ¬ x = 0 → OkZ sc i nx lv (st) Z J Φ) : OkZ sc i pc lv (.int (I x) :: st) Z J Φ := r_if_eq hf (fun q => ht ((I_eq (y := 0) hx ⟨by omega, by omega⟩).mp q)) (fun q => hn (fun z => q ((I_eq (y := 0) hx ⟨by omega, by omega⟩).mpr z)))
theorem z_rcmp_eq {x y : Int32} {off : Int} (hf : fetch i pc = some (.if_icmp .eq off, nx, a, b, ws, cv)) (ht : x = y → OkZ sc i a lv (st) Z J Φ) (hn : ¬ x = y → OkZ sc i nx lv (st) Z J Φ) : OkZ sc i pc lv (.int y :: .int x :: st) Z J Φ := r_icmp_eq hf ht hn
theorem z_rif_eq {x : Int32} {off : Int} (hf : fetch i pc = some (.ifCond .eq off, nx, a, b, ws, cv)) (ht : x = 0 → OkZ sc i a lv (st) Z J Φ) (hn : ¬ x = 0 → OkZ sc i nx lv (st) Z J Φ) : OkZ sc i pc lv (.int x :: st) Z J Φ := r_if_eq hf ht hn
theorem z_icmp_ne {x y : Int} {off : Int} (hf : fetch i pc = some (.if_icmp .ne off, nx, a, b, ws, cv)) (hx : -2147483648 ≤ x ∧ x ≤ 2147483647) (hy : -2147483648 ≤ y ∧ y ≤ 2147483647) (ht : ¬ x = y → OkZ sc i a lv (st) Z J Φ) (hn : x = y → OkZ sc i nx lv (st) Z J Φ) : OkZ sc i pc lv (.int (I y) :: .int (I x) :: st) Z J Φ := r_icmp_ne hf (fun q => ht (fun z => q ((I_eq hx hy).mpr z))) (fun q => hn ((I_eq hx hy).mp q))
theorem z_if_ne {x : Int} {off : Int} (hf : fetch i pc = some (.ifCond .ne off, nx, a, b, ws, cv)) (hx : -2147483648 ≤ x ∧ x ≤ 2147483647) (ht : ¬ x = 0 → OkZ sc i a lv (st) Z J Φ) (hn : x = 0 → OkZ sc i nx lv (st) Z J Φ) : OkZ sc i pc lv (.int (I x) :: st) Z J Φ := r_if_ne hf (fun q => ht (fun z => q ((I_eq (y := 0) hx ⟨by omega, by omega⟩).mpr z))) (fun q => hn ((I_eq (y := 0) hx ⟨by omega, by omega⟩).mp q))
theorem z_rcmp_ne {x y : Int32} {off : Int} (hf : fetch i pc = some (.if_icmp .ne off, nx, a, b, ws, cv)) (ht : ¬ x = y → OkZ sc i a lv (st) Z J Φ) (hn : x = y → OkZ sc i nx lv (st) Z J Φ) : OkZ sc i pc lv (.int y :: .int x :: st) Z J Φ := r_icmp_ne hf ht hn
theorem z_rif_ne {x : Int32} {off : Int} (hf : fetch i pc = some (.ifCond .ne off, nx, a, b, ws, cv)) (ht : ¬ x = 0 → OkZ sc i a lv (st) Z J Φ) (hn : x = 0 → OkZ sc i nx lv (st) Z J Φ) : OkZ sc i pc lv (.int x :: st) Z J Φ := r_if_ne hf ht hn
theorem z_icmp_lt {x y : Int} {off : Int} (hf : fetch i pc = some (.if_icmp .lt off, nx, a, b, ws, cv)) (hx : -2147483648 ≤ x ∧ x ≤ 2147483647) (hy : -2147483648 ≤ y ∧ y ≤ 2147483647) (ht : x < y → OkZ sc i a lv (st) Z J Φ) (hn : ¬ x < y → OkZ sc i nx lv (st) Z J Φ) : OkZ sc i pc lv (.int (I y) :: .int (I x) :: st) Z J Φ := r_icmp_lt hf (fun q => ht ((I_lt hx hy).mp q)) (fun q => hn (fun z => q ((I_lt hx hy).mpr z)))
theorem z_if_lt {x : Int} {off : Int} (hf : fetch i pc = some (.ifCond .lt off, nx, a, b, ws, cv)) (hx : -2147483648 ≤ x ∧ x ≤ 2147483647) (ht : x < 0 → OkZ sc i a lv (st) Z J Φ) (hn : ¬ x < 0 → OkZ sc i nx lv (st) Z J Φ) : OkZ sc i pc lv (.int (I x) :: st) Z J Φ := r_if_lt hf (fun q => ht ((I_lt (y := 0) hx ⟨by omega, by omega⟩).mp q)) (fun q => hn (fun z => q ((I_lt (y := 0) hx ⟨by omega, by omega⟩).mpr z)))
theorem z_rcmp_lt {x y : Int32} {off : Int} (hf : fetch i pc = some (.if_icmp .lt off, nx, a, b, ws, cv)) (ht : x < y → OkZ sc i a lv (st) Z J Φ) (hn : ¬ x < y → OkZ sc i nx lv (st) Z J Φ) : OkZ sc i pc lv (.int y :: .int x :: st) Z J Φ := r_icmp_lt hf ht hn
theorem z_rif_lt {x : Int32} {off : Int} (hf : fetch i pc = some (.ifCond .lt off, nx, a, b, ws, cv)) (ht : x < 0 → OkZ sc i a lv (st) Z J Φ) (hn : ¬ x < 0 → OkZ sc i nx lv (st) Z J Φ) : OkZ sc i pc lv (.int x :: st) Z J Φ := r_if_lt hf ht hn
theorem z_icmp_ge {x y : Int} {off : Int} (hf : fetch i pc = some (.if_icmp .ge off, nx, a, b, ws, cv)) (hx : -2147483648 ≤ x ∧ x ≤ 2147483647) (hy : -2147483648 ≤ y ∧ y ≤ 2147483647) (ht : y ≤ x → OkZ sc i a lv (st) Z J Φ) (hn : ¬ y ≤ x → OkZ sc i nx lv (st) Z J Φ) : OkZ sc i pc lv (.int (I y) :: .int (I x) :: st) Z J Φ := r_icmp_ge hf (fun q => ht ((I_le hy hx).mp q)) (fun q => hn (fun z => q ((I_le hy hx).mpr z)))
theorem z_if_ge {x : Int} {off : Int} (hf : fetch i pc = some (.ifCond .ge off, nx, a, b, ws, cv)) (hx : -2147483648 ≤ x ∧ x ≤ 2147483647) (ht : 0 ≤ x → OkZ sc i a lv (st) Z J Φ) (hn : ¬ 0 ≤ x → OkZ sc i nx lv (st) Z J Φ) : OkZ sc i pc lv (.int (I x) :: st) Z J Φ := r_if_ge hf (fun q => ht ((I_le (x := 0) ⟨by omega, by omega⟩ hx).mp q)) (fun q => hn (fun z => q ((I_le (x := 0) ⟨by omega, by omega⟩ hx).mpr z)))
theorem z_rcmp_ge {x y : Int32} {off : Int} (hf : fetch i pc = some (.if_icmp .ge off, nx, a, b, ws, cv)) (ht : y ≤ x → OkZ sc i a lv (st) Z J Φ) (hn : ¬ y ≤ x → OkZ sc i nx lv (st) Z J Φ) : OkZ sc i pc lv (.int y :: .int x :: st) Z J Φ := r_icmp_ge hf ht hn
theorem z_rif_ge {x : Int32} {off : Int} (hf : fetch i pc = some (.ifCond .ge off, nx, a, b, ws, cv)) (ht : 0 ≤ x → OkZ sc i a lv (st) Z J Φ) (hn : ¬ 0 ≤ x → OkZ sc i nx lv (st) Z J Φ) : OkZ sc i pc lv (.int x :: st) Z J Φ := r_if_ge hf ht hn
theorem z_icmp_gt {x y : Int} {off : Int} (hf : fetch i pc = some (.if_icmp .gt off, nx, a, b, ws, cv)) (hx : -2147483648 ≤ x ∧ x ≤ 2147483647) (hy : -2147483648 ≤ y ∧ y ≤ 2147483647) (ht : y < x → OkZ sc i a lv (st) Z J Φ) (hn : ¬ y < x → OkZ sc i nx lv (st) Z J Φ) : OkZ sc i pc lv (.int (I y) :: .int (I x) :: st) Z J Φ := r_icmp_gt hf (fun q => ht ((I_lt hy hx).mp q)) (fun q => hn (fun z => q ((I_lt hy hx).mpr z)))
theorem z_if_gt {x : Int} {off : Int} (hf : fetch i pc = some (.ifCond .gt off, nx, a, b, ws, cv)) (hx : -2147483648 ≤ x ∧ x ≤ 2147483647) (ht : 0 < x → OkZ sc i a lv (st) Z J Φ) (hn : ¬ 0 < x → OkZ sc i nx lv (st) Z J Φ) : OkZ sc i pc lv (.int (I x) :: st) Z J Φ := r_if_gt hf (fun q => ht ((I_lt (x := 0) ⟨by omega, by omega⟩ hx).mp q)) (fun q => hn (fun z => q ((I_lt (x := 0) ⟨by omega, by omega⟩ hx).mpr z)))
theorem z_rcmp_gt {x y : Int32} {off : Int} (hf : fetch i pc = some (.if_icmp .gt off, nx, a, b, ws, cv)) (ht : y < x → OkZ sc i a lv (st) Z J Φ) (hn : ¬ y < x → OkZ sc i nx lv (st) Z J Φ) : OkZ sc i pc lv (.int y :: .int x :: st) Z J Φ := r_icmp_gt hf ht hn
theorem z_rif_gt {x : Int32} {off : Int} (hf : fetch i pc = some (.ifCond .gt off, nx, a, b, ws, cv)) (ht : 0 < x → OkZ sc i a lv (st) Z J Φ) (hn : ¬ 0 < x → OkZ sc i nx lv (st) Z J Φ) : OkZ sc i pc lv (.int x :: st) Z J Φ := r_if_gt hf ht hn
theorem z_icmp_le {x y : Int} {off : Int} (hf : fetch i pc = some (.if_icmp .le off, nx, a, b, ws, cv)) (hx : -2147483648 ≤ x ∧ x ≤ 2147483647) (hy : -2147483648 ≤ y ∧ y ≤ 2147483647) (ht : x ≤ y → OkZ sc i a lv (st) Z J Φ) (hn : ¬ x ≤ y → OkZ sc i nx lv (st) Z J Φ) : OkZ sc i pc lv (.int (I y) :: .int (I x) :: st) Z J Φ := r_icmp_le hf (fun q => ht ((I_le hx hy).mp q)) (fun q => hn (fun z => q ((I_le hx hy).mpr z)))
theorem z_if_le {x : Int} {off : Int} (hf : fetch i pc = some (.ifCond .le off, nx, a, b, ws, cv)) (hx : -2147483648 ≤ x ∧ x ≤ 2147483647) (ht : x ≤ 0 → OkZ sc i a lv (st) Z J Φ) (hn : ¬ x ≤ 0 → OkZ sc i nx lv (st) Z J Φ) : OkZ sc i pc lv (.int (I x) :: st) Z J Φ := r_if_le hf (fun q => ht ((I_le (y := 0) hx ⟨by omega, by omega⟩).mp q)) (fun q => hn (fun z => q ((I_le (y := 0) hx ⟨by omega, by omega⟩).mpr z)))
theorem z_rcmp_le {x y : Int32} {off : Int} (hf : fetch i pc = some (.if_icmp .le off, nx, a, b, ws, cv)) (ht : x ≤ y → OkZ sc i a lv (st) Z J Φ) (hn : ¬ x ≤ y → OkZ sc i nx lv (st) Z J Φ) : OkZ sc i pc lv (.int y :: .int x :: st) Z J Φ := r_icmp_le hf ht hn
theorem z_rif_le {x : Int32} {off : Int} (hf : fetch i pc = some (.ifCond .le off, nx, a, b, ws, cv)) (ht : x ≤ 0 → OkZ sc i a lv (st) Z J Φ) (hn : ¬ x ≤ 0 → OkZ sc i nx lv (st) Z J Φ) : OkZ sc i pc lv (.int x :: st) Z J Φ := r_if_le hf ht hn
theorem z_ifb_eq {c : Bool} {off : Int} (hf : fetch i pc = some (.ifCond .eq off, nx, a, b, ws, cv)) (ht : c = false → OkZ sc i a lv (st) Z J Φ) (hn : c = true → OkZ sc i nx lv (st) Z J Φ) : OkZ sc i pc lv (.int (I (if c then 1 else 0)) :: st) Z J Φ := by
  cases c
  · exact z_if_eq hf ⟨by decide, by decide⟩ (fun _ => ht rfl) (fun q => absurd rfl q)
  · exact z_if_eq hf ⟨by decide, by decide⟩ (fun q => absurd q (by decide)) (fun _ => hn rfl)
theorem z_ifb_ne {c : Bool} {off : Int} (hf : fetch i pc = some (.ifCond .ne off, nx, a, b, ws, cv)) (ht : c = true → OkZ sc i a lv (st) Z J Φ) (hn : c = false → OkZ sc i nx lv (st) Z J Φ) : OkZ sc i pc lv (.int (I (if c then 1 else 0)) :: st) Z J Φ := by
  cases c
  · exact z_if_ne hf ⟨by decide, by decide⟩ (fun q => absurd rfl q) (fun _ => hn rfl)
  · exact z_if_ne hf ⟨by decide, by decide⟩ (fun _ => ht rfl) (fun q => absurd q (by decide))
theorem z_ifnonnull {x : Nat} {off : Int} (hf : fetch i pc = some (.ifnonnull off, nx, a, b, ws, cv)) (h : OkZ sc i a lv (st) Z J Φ) : OkZ sc i pc lv (.ref x :: st) Z J Φ := r_ifnonnull hf h
theorem z_ifnonnullN {off : Int} (hf : fetch i pc = some (.ifnonnull off, nx, a, b, ws, cv)) (h : OkZ sc i nx lv (st) Z J Φ) : OkZ sc i pc lv (.null :: st) Z J Φ := r_ifnonnullN hf h
theorem z_swOut {dflt lo hi : Int} {offs : Array Int} {x : Int} {tgt : Nat} (hf : fetch i pc = some (.tableswitch dflt lo hi offs, nx, a, b, ws, cv)) (hx : -2147483648 ≤ x ∧ x ≤ 2147483647) (hq : x < lo ∨ hi < x) (ht : (pc : Int) + dflt = (tgt : Int)) (h : OkZ sc i tgt lv (st) Z J Φ) : OkZ sc i pc lv (.int (I x) :: st) Z J Φ := r_swOut hf (by rw [I_int hx.1 hx.2]; exact hq) ht h
theorem z_swIn {dflt lo hi off : Int} {offs : Array Int} {x : Int} {tgt : Nat} (hf : fetch i pc = some (.tableswitch dflt lo hi offs, nx, a, b, ws, cv)) (hx : -2147483648 ≤ x ∧ x ≤ 2147483647) (h1 : ¬ x < lo) (h2 : ¬ hi < x) (h3 : offs[(x - lo).toNat]? = some off) (ht : (pc : Int) + off = (tgt : Int)) (h : OkZ sc i tgt lv (st) Z J Φ) : OkZ sc i pc lv (.int (I x) :: st) Z J Φ := r_swIn hf (by rw [I_int hx.1 hx.2]; exact h1) (by rw [I_int hx.1 hx.2]; exact h2) (by rw [I_int hx.1 hx.2]; exact h3) ht h
theorem z_ldc {v : Int32} {idx w1 : Nat} (hf : fetch i pc = some (.ldc idx, nx, a, b, [w1], .int v)) (h : OkZ sc i nx lv (.int v :: st) Z J Φ) : OkZ sc i pc lv (st) Z J Φ := r_ldc hf h
theorem z_ldcf {v : UInt32} {idx w1 : Nat} (hf : fetch i pc = some (.ldc idx, nx, a, b, [w1], .float v)) (h : OkZ sc i nx lv (.float v :: st) Z J Φ) : OkZ sc i pc lv (st) Z J Φ := r_ldcf hf h
theorem z_ldc2 {v : Int64} {idx w1 : Nat} (hf : fetch i pc = some (.ldc2_w idx, nx, a, b, [w1], .long v)) (h : OkZ sc i nx lv (.long v :: st) Z J Φ) : OkZ sc i pc lv (st) Z J Φ := r_ldc2 hf h
theorem z_iret {x : Int32} (hf : fetch i pc = some (.ireturn, nx, a, b, ws, cv)) (hty : mRet i = some .int) (hΦ : Φ (some (.int x)) Z J) : OkZ sc i pc lv [.int x] Z J Φ := r_iret hf hty rfl ⟨Z, J, rfl, hΦ⟩
theorem z_bret {c : Bool} (hf : fetch i pc = some (.ireturn, nx, a, b, ws, cv)) (hty : mRet i = some .boolean) (hΦ : Φ (some (.int (I (if c then 1 else 0)))) Z J) : OkZ sc i pc lv [.int (I (if c then 1 else 0))] Z J Φ := r_iret hf hty (by cases c <;> decide) ⟨Z, J, rfl, hΦ⟩
theorem z_bret1 (hf : fetch i pc = some (.ireturn, nx, a, b, ws, cv)) (hty : mRet i = some .boolean) (hΦ : Φ (some (.int (I 1))) Z J) : OkZ sc i pc lv [.int (I 1)] Z J Φ := r_iret hf hty (by decide) ⟨Z, J, rfl, hΦ⟩
theorem z_bret0 (hf : fetch i pc = some (.ireturn, nx, a, b, ws, cv)) (hty : mRet i = some .boolean) (hΦ : Φ (some (.int (I 0))) Z J) : OkZ sc i pc lv [.int (I 0)] Z J Φ := r_iret hf hty (by decide) ⟨Z, J, rfl, hΦ⟩
theorem z_lret {x : Int64} (hf : fetch i pc = some (.lreturn, nx, a, b, ws, cv)) (hty : mRet i = some .long) (hΦ : Φ (some (.long x)) Z J) : OkZ sc i pc lv [.long x] Z J Φ := r_lret hf hty ⟨Z, J, rfl, hΦ⟩
theorem z_vret (hf : fetch i pc = some (.return_, nx, a, b, ws, cv)) (hty : mRet i = none) (hΦ : Φ none Z J) : OkZ sc i pc lv [] Z J Φ := r_vret hf hty ⟨Z, J, rfl, hΦ⟩
theorem z_aret {k : Nat} {rt : FieldType} (hf : fetch i pc = some (.areturn, nx, a, b, ws, cv)) (hty : mRet i = some rt) (hrt : (∃ n, rt = .object n) ∨ ∃ t, rt = .array t) (hΦ : Φ (some (.ref k)) Z J) : OkZ sc i pc lv [.ref k] Z J Φ := r_aret hf hty hrt (Or.inr ⟨k, rfl⟩) ⟨Z, J, rfl, hΦ⟩
theorem lay_slot {Z : ZW} {k j : Nat} {t : Bool} {q l : Nat} {ss : List (Option Nat)} {s : Option Nat} (hs : ss[j]? = some s) : (layC Z J k (t, q, l, ss)).2.2[j]? = some (layV Z J k j s) := by
  simp [layC, List.getElem?_mapIdx, hs]
theorem z_getI {idx w1 k l : Nat} {ss : List (Option Nat)} {bi : Int} (hf : fetch i pc = some (.getfield idx, nx, a, b, [w1], cv)) (hl : LAYC[k]? = some (false, a, l, ss)) (hs : ss[b]? = some none) (hb : (b : Int) = bi) (h : OkZ sc i nx lv (.int (I (Z l bi)) :: st) Z J Φ) : OkZ sc i pc lv (.ref k :: st) Z J Φ := r_getf hf (lay_get hl) (lay_slot hs) (by
  subst hb
  rw [layV_I rfl, V_at (lab_norm hl hs)]
  exact h)
theorem z_getS {idx w1 l : Nat} {ss : List (Option Nat)} {bi : Int} (hf : fetch i pc = some (.getfield idx, nx, a, b, [w1], cv)) (hl : LAYC[1]? = some (false, a, l, ss)) (hs : ss[b]? = some (some 4000)) (hb : lab 1 b = (3, bi)) (h : OkZ sc i nx lv (.int (I (Z 3 bi)) :: st) Z J Φ) : OkZ sc i pc lv (.ref 1 :: st) Z J Φ := r_getf hf (lay_get hl) (lay_slot hs) (by
  rw [layV_I rfl, V_at hb]
  exact h)
theorem z_getR {idx w1 k r l : Nat} {ss : List (Option Nat)} (hf : fetch i pc = some (.getfield idx, nx, a, b, [w1], cv)) (hl : LAYC[k]? = some (false, a, l, ss)) (hs : ss[b]? = some (some r)) (hr : Nat.blt r 1000 = true) (h : OkZ sc i nx lv (.ref r :: st) Z J Φ) : OkZ sc i pc lv (.ref k :: st) Z J Φ := r_getf hf (lay_get hl) (lay_slot hs) (by
  have hr2 : r < 1000 := Nat.le_of_ble_eq_true hr
  have : layV (V Z) J k b (some r) = .ref r := (if_neg (by omega)).trans (if_neg (by omega))
  rw [this]
  exact h)
theorem z_getL {idx w1 k l : Nat} {ss : List (Option Nat)} (hf : fetch i pc = some (.getfield idx, nx, a, b, [w1], cv)) (hl : LAYC[k]? = some (false, a, l, ss)) (hs : ss[b]? = some (some 2000)) (h : OkZ sc i nx lv (.long J :: st) Z J Φ) : OkZ sc i pc lv (.ref k :: st) Z J Φ := r_getf hf (lay_get hl) (lay_slot hs) h
theorem z_putI {idx w1 k l : Nat} {ss : List (Option Nat)} {x bi : Int} (hf : fetch i pc = some (.putfield idx, nx, a, b, [w1], cv)) (hl : LAYC[k]? = some (false, a, l, ss)) (hs : ss[b]? = some none) (hty : tyOf a b = .int) (hb : (b : Int) = bi) (h : OkZ sc i nx lv (st) (up Z l bi x) J Φ) : OkZ sc i pc lv (.int (I x) :: .ref k :: st) Z J Φ := r_putf hf (lay_get hl) (by rw [hty]; rfl) (by
  have := (List.getElem?_eq_some_iff.mp hs).1
  simpa [layC] using this) (by
  subst hb
  have := lay_set (Z := Z) (J := J) (v := x) hl hs rfl (lab_norm hl hs)
  show Ok _ _ _ _ _ ((lay Z J).set k (false, a, (layC (V Z) J k (false, a, l, ss)).2.2.set b (.int (I x)))) _ _ _
  rw [this]
  exact h)
theorem z_putS {idx w1 l : Nat} {ss : List (Option Nat)} {x bi : Int} (hf : fetch i pc = some (.putfield idx, nx, a, b, [w1], cv)) (hl : LAYC[1]? = some (false, a, l, ss)) (hs : ss[b]? = some (some 4000)) (hty : tyOf a b = .int) (hb : lab 1 b = (3, bi)) (h : OkZ sc i nx lv (st) (up Z 3 bi x) J Φ) : OkZ sc i pc lv (.int (I x) :: .ref 1 :: st) Z J Φ := r_putf hf (lay_get hl) (by rw [hty]; rfl) (by
  have := (List.getElem?_eq_some_iff.mp hs).1
  simpa [layC] using this) (by
  have := lay_set (Z := Z) (J := J) (v := x) hl hs rfl hb
  show Ok _ _ _ _ _ ((lay Z J).set 1 (false, a, (layC (V Z) J 1 (false, a, l, ss)).2.2.set b (.int (I x)))) _ _ _
  rw [this]
  exact h)
theorem z_putL {idx w1 l : Nat} {ss : List (Option Nat)} {x : Int64} (hf : fetch i pc = some (.putfield idx, nx, a, 30, [w1], cv)) (hl : LAYC[64]? = some (false, a, l, ss)) (hty : tyOf a 30 = .long) (hs : Nat.blt 30 ss.length = true) (h : OkZ sc i nx lv (st) Z x Φ) : OkZ sc i pc lv (.long x :: .ref 64 :: st) Z J Φ := r_putf hf (lay_get hl) (by rw [hty]; rfl) (by
  have hs2 : 30 < ss.length := Nat.le_of_ble_eq_true hs
  simpa [layC] using hs2) (by
  have := lay_J (Z := Z) (J := J) (x := x) hl
  show Ok _ _ _ _ _ ((lay Z J).set 64 (false, a, (layC (V Z) J 64 (false, a, l, ss)).2.2.set 30 (.long x))) _ _ _
  rw [this]
  exact h)
theorem rep_get {n j : Nat} {s : Option Nat} (h : j < n) : (List.replicate n s)[j]? = some s := by rw [List.getElem?_replicate, if_pos h]
theorem layC_len (Z : ZW) (k : Nat) (t : Bool) (q l n : Nat) (s : Option Nat) : (layC Z J k (t, q, l, List.replicate n s)).2.2.length = n := by simp [layC]
theorem lay_n {k l q n : Nat} {t : Bool} {s : Option Nat} (hl : LAYC[k]? = some (t, q, l, List.replicate n s)) : n < 1000 := by
  have : ∀ k, k < 80 → (LAYC.getD k (false, 0, 0, [])).2.2.2.length < 1000 := by decide +kernel
  have h1 := this k (List.getElem?_eq_some_iff.mp hl).1
  rw [List.getD_eq_getElem?_getD, hl] at h1
  simpa using h1
theorem z_iald {k n l : Nat} {x : Int} (hf : fetch i pc = some (.iaload, nx, a, b, ws, cv)) (hl : LAYC[k]? = some (true, 0, l, List.replicate n none)) (h0 : 0 ≤ x ∧ x < n) (h : OkZ sc i nx lv (.int (I (Z l x)) :: st) Z J Φ) : OkZ sc i pc lv (.int (I x) :: .ref k :: st) Z J Φ := by
  have hn := lay_n hl
  have hx : x.toNat < n := by omega
  refine r_iald (fs := (layC (V Z) J k (true, 0, l, List.replicate n none)).2.2) hf (lay_get hl) (by rw [layC_len]; exact I_in h0.1 h0.2 (by omega)) (y := I (Z l x)) ?_ h
  rw [I_nat h0.1 (by omega), lay_slot (rep_get hx), layV_I rfl, V_at (lab_norm hl (rep_get hx)), Int.toNat_of_nonneg h0.1]
theorem z_zald {k n l : Nat} {x : Int} (hf : fetch i pc = some (.baload, nx, a, b, ws, cv)) (hl : LAYC[k]? = some (true, 1, l, List.replicate n none)) (h0 : 0 ≤ x ∧ x < n) (h : OkZ sc i nx lv (.int (I (Z l x)) :: st) Z J Φ) : OkZ sc i pc lv (.int (I x) :: .ref k :: st) Z J Φ := by
  have hn := lay_n hl
  have hx : x.toNat < n := by omega
  refine r_zald (fs := (layC (V Z) J k (true, 1, l, List.replicate n none)).2.2) hf (lay_get hl) (by rw [layC_len]; exact I_in h0.1 h0.2 (by omega)) (y := I (Z l x)) ?_ h
  rw [I_nat h0.1 (by omega), lay_slot (rep_get hx), layV_I rfl, V_at (lab_norm hl (rep_get hx)), Int.toNat_of_nonneg h0.1]
theorem z_iast {k n l : Nat} {x y : Int} (hf : fetch i pc = some (.iastore, nx, a, b, ws, cv)) (hl : LAYC[k]? = some (true, 0, l, List.replicate n none)) (h0 : 0 ≤ x ∧ x < n) (h : OkZ sc i nx lv (st) (up Z l x y) J Φ) : OkZ sc i pc lv (.int (I y) :: .int (I x) :: .ref k :: st) Z J Φ := by
  have hn := lay_n hl
  have hx : x.toNat < n := by omega
  refine r_iast (fs := (layC (V Z) J k (true, 0, l, List.replicate n none)).2.2) hf (lay_get hl) (by rw [layC_len]; exact I_in h0.1 h0.2 (by omega))  ?_
  rw [I_nat h0.1 (by omega)]
  have := lay_set (Z := Z) (J := J) (v := y) hl (rep_get hx) rfl (lab_norm hl (rep_get hx))
  rw [Int.toNat_of_nonneg h0.1] at this
  show Ok _ _ _ _ _ ((lay Z J).set k (true, 0, (layC (V Z) J k (true, 0, l, List.replicate n none)).2.2.set x.toNat (.int (I y)))) _ _ _
  rw [this]
  exact h
theorem z_zast {k n l : Nat} {x y : Int} (hf : fetch i pc = some (.bastore, nx, a, b, ws, cv)) (hl : LAYC[k]? = some (true, 1, l, List.replicate n none)) (h0 : 0 ≤ x ∧ x < n) (hb : y = 0 ∨ y = 1) (h : OkZ sc i nx lv (st) (up Z l x y) J Φ) : OkZ sc i pc lv (.int (I y) :: .int (I x) :: .ref k :: st) Z J Φ := by
  have hn := lay_n hl
  have hx : x.toNat < n := by omega
  refine r_zast (fs := (layC (V Z) J k (true, 1, l, List.replicate n none)).2.2) hf (lay_get hl) (by rw [layC_len]; exact I_in h0.1 h0.2 (by omega)) (by rcases hb with rfl | rfl <;> decide) ?_
  rw [I_nat h0.1 (by omega)]
  have := lay_set (Z := Z) (J := J) (v := y) hl (rep_get hx) rfl (lab_norm hl (rep_get hx))
  rw [Int.toNat_of_nonneg h0.1] at this
  show Ok _ _ _ _ _ ((lay Z J).set k (true, 1, (layC (V Z) J k (true, 1, l, List.replicate n none)).2.2.set x.toNat (.int (I y)))) _ _ _
  rw [this]
  exact h
theorem lab_20 {x : Int} (h0 : 0 ≤ x) : lab 20 (x.toNat : Int) = (14, 8 + x) := by
  unfold lab
  rw [if_pos rfl, if_pos (by omega), Int.toNat_of_nonneg h0]
theorem z_xald {k n l c : Nat} {s : Option Nat} {x xo : Int} (hf : fetch i pc = some (.baload, nx, a, b, ws, cv)) (hl : LAYC[k]? = some (true, 1, l, List.replicate n s)) (hi : isI s = true) (h0 : 0 ≤ x ∧ x < n) (hb : lab k (x.toNat : Int) = (c, xo)) (h : OkZ sc i nx lv (.int (I (Z c xo)) :: st) Z J Φ) : OkZ sc i pc lv (.int (I x) :: .ref k :: st) Z J Φ := by
  have hn := lay_n hl
  have hx : x.toNat < n := by omega
  refine r_zald (fs := (layC (V Z) J k (true, 1, l, List.replicate n s)).2.2) hf (lay_get hl) (by rw [layC_len]; exact I_in h0.1 h0.2 (by omega)) (y := I (Z c xo)) ?_ h
  rw [I_nat h0.1 (by omega), lay_slot (rep_get hx), layV_I hi, V_at hb]
theorem z_xast {k n l c : Nat} {s : Option Nat} {x y xo : Int} (hf : fetch i pc = some (.bastore, nx, a, b, ws, cv)) (hl : LAYC[k]? = some (true, 1, l, List.replicate n s)) (hi : isI s = true) (h0 : 0 ≤ x ∧ x < n) (hb : lab k (x.toNat : Int) = (c, xo)) (hy : y = 0 ∨ y = 1) (h : OkZ sc i nx lv (st) (up Z c xo y) J Φ) : OkZ sc i pc lv (.int (I y) :: .int (I x) :: .ref k :: st) Z J Φ := by
  have hn := lay_n hl
  have hx : x.toNat < n := by omega
  refine r_zast (fs := (layC (V Z) J k (true, 1, l, List.replicate n s)).2.2) hf (lay_get hl) (by rw [layC_len]; exact I_in h0.1 h0.2 (by omega)) (by rcases hy with rfl | rfl <;> decide) ?_
  rw [I_nat h0.1 (by omega)]
  have := lay_set (Z := Z) (J := J) (v := y) hl (rep_get hx) hi hb
  show Ok _ _ _ _ _ ((lay Z J).set k (true, 1, (layC (V Z) J k (true, 1, l, List.replicate n s)).2.2.set x.toNat (.int (I y)))) _ _ _
  rw [this]
  exact h
theorem lay_20 : LAYC[20]? = some (true, 1, 14, List.replicate 24 (some 4000)) := rfl
theorem z_eald {x : Int} (hf : fetch i pc = some (.baload, nx, a, b, ws, cv)) (h0 : 0 ≤ x ∧ x < 24) (h : OkZ sc i nx lv (.int (I (Z 14 (8 + x))) :: st) Z J Φ) : OkZ sc i pc lv (.int (I x) :: .ref 20 :: st) Z J Φ := z_xald hf lay_20 rfl ⟨h0.1, by omega⟩ (lab_20 h0.1) h
theorem z_east {x y : Int} (hf : fetch i pc = some (.bastore, nx, a, b, ws, cv)) (h0 : 0 ≤ x ∧ x < 24) (hb : y = 0 ∨ y = 1) (h : OkZ sc i nx lv (st) (up Z 14 (8 + x) y) J Φ) : OkZ sc i pc lv (.int (I y) :: .int (I x) :: .ref 20 :: st) Z J Φ := z_xast hf lay_20 rfl ⟨h0.1, by omega⟩ (lab_20 h0.1) hb h
theorem z_alen {k n l : Nat} {ni : Int} (hf : fetch i pc = some (.arraylength, nx, a, b, ws, cv)) (hl : LAYC[k]? = some (true, 0, l, List.replicate n none)) (hn : (n : Int) = ni) (h : OkZ sc i nx lv (.int (I ni) :: st) Z J Φ) : OkZ sc i pc lv (.ref k :: st) Z J Φ := r_alen hf (lay_get hl) (by
  show OkZ sc i nx lv (.int (Int32.ofNat (layC (V Z) J k (true, 0, l, List.replicate n none)).2.2.length) :: st) Z J Φ
  rw [layC_len]
  subst hn
  exact h)
theorem z_place {x : Int} (hf : fetch i pc = some (.aaload, nx, a, b, ws, cv)) (h0 : 0 ≤ x ∧ x < 5) (h : OkZ sc i nx lv (.ref (34 + 5 * x.toNat) :: st) Z J Φ) : OkZ sc i pc lv (.int (I x) :: .ref 33 :: st) Z J Φ := by
  have hl : LAYC[33]? = some (true, 2, 33, [some 34, some 39, some 44, some 49, some 54]) := rfl
  have hx : x.toNat < 5 := by omega
  refine r_aald hf (lay_get hl) (I_in (n := 5) h0.1 h0.2 (by omega)) (y := 34 + 5 * x.toNat) ?_ (by omega) h
  rw [I_nat h0.1 (by omega)]
  generalize x.toNat = q at hx
  match q, hx with
  | 0, _ => rfl
  | 1, _ => rfl
  | 2, _ => rfl
  | 3, _ => rfl
  | 4, _ => rfl
def cpy (Z : ZW) (k0 k1 : Nat) (n : Int) : ZW := fun k j => if k = k1 ∧ 0 ≤ j ∧ j < n then Z k0 j else Z k j
theorem lay0_cpy {Z : ZW} {k0 k1 n n0 n1 l0 l1 : Nat} (hl0 : LAYC[k0]? = some (true, 0, l0, List.replicate n0 none)) (hl1 : LAYC[k1]? = some (true, 0, l1, List.replicate n1 none)) (h0 : n ≤ n0) (h1 : n ≤ n1) : (lay0 Z J).set k1 (true, 0, (layC Z J k0 (true, 0, l0, List.replicate n0 none)).2.2.take n ++ (layC Z J k1 (true, 0, l1, List.replicate n1 none)).2.2.drop n) = lay0 (cpy Z k0 k1 n) J := by
  apply List.ext_getElem?
  intro q
  rw [List.getElem?_set, lay0_len]
  by_cases hq : k1 = q
  · subst hq
    have hlt : k1 < 80 := (List.getElem?_eq_some_iff.mp hl1).1
    rw [if_pos rfl, if_pos hlt, lay0_get hl1]
    congr 1
    refine Prod.ext rfl (Prod.ext rfl ?_)
    apply List.ext_getElem?
    intro j
    rw [List.getElem?_append, List.length_take, layC_len, Nat.min_eq_left h0]
    by_cases hj : j < n
    · rw [if_pos hj, List.getElem?_take, if_pos hj, lay_slot (rep_get (by omega)), lay_slot (rep_get (by omega))]
      have : (0 : Int) ≤ j ∧ (j : Int) < n := by omega
      simp [layV, cpy, this.2]
    · rw [if_neg hj, List.getElem?_drop, show n + (j - n) = j by omega]
      by_cases hj1 : j < n1
      · rw [lay_slot (rep_get hj1), lay_slot (rep_get hj1)]
        have : ¬ ((j : Int) < n) := by omega
        simp [layV, cpy, this]
      · rw [List.getElem?_eq_none (by rw [layC_len]; omega), List.getElem?_eq_none (by rw [layC_len]; omega)]
  · rw [if_neg hq]
    unfold lay0
    rw [List.getElem?_mapIdx, List.getElem?_mapIdx]
    cases LAYC[q]? with
    | none => rfl
    | some c =>
      simp only [Option.map_some]
      congr 1
      refine Prod.ext rfl (Prod.ext rfl ?_)
      show c.2.2.2.mapIdx _ = c.2.2.2.mapIdx _
      apply List.ext_getElem?
      intro j
      rw [List.getElem?_mapIdx, List.getElem?_mapIdx]
      cases c.2.2.2[j]? with
      | none => rfl
      | some s =>
        have hne : ¬ q = k1 := fun h => hq h.symm
        simp only [Option.map_some]
        cases hb : isI s with
        | true => rw [layV_I hb, layV_I hb]; simp [cpy, hne]
        | false => rw [layV_N hb]
theorem V_cpy {k0 k1 l0 l1 : Nat} {n : Int} (hl0 : ∀ j, lab k0 j = (l0, j)) (hl1 : ∀ j, lab k1 j = (l1, j)) : cpy (V Z) k0 k1 n = V (cpy Z l0 l1 n) := by
  funext k j
  show (if k = k1 ∧ 0 ≤ j ∧ j < n then Z (lab k0 j).1 (lab k0 j).2 else Z (lab k j).1 (lab k j).2) = (if (lab k j).1 = l1 ∧ 0 ≤ (lab k j).2 ∧ (lab k j).2 < n then Z l0 (lab k j).2 else Z (lab k j).1 (lab k j).2)
  by_cases hk : k = k1 ∧ 0 ≤ j ∧ j < n
  · rw [if_pos hk, hl0, hk.1, hl1, if_pos ⟨rfl, hk.2⟩]
  · rw [if_neg hk, if_neg (fun q => ?_)]
    have h1 : lab k j = lab k1 (lab k j).2 := by rw [hl1]; exact Prod.ext q.1 rfl
    obtain ⟨e1, e2⟩ := lab_inj h1
    exact hk ⟨e1, by rw [e2]; exact q.2⟩
theorem z_copy {w1 w2 w3 w4 idx k0 k1 n0 n1 l0 l1 : Nat} {x : Int} (hf : fetch i pc = some (.invokestatic idx, nx, a, b, [w1, w2, w3, w4], .int 3)) (hl0 : LAYC[k0]? = some (true, 0, l0, List.replicate n0 none)) (hl1 : LAYC[k1]? = some (true, 0, l1, List.replicate n1 none)) (hx : 0 ≤ x ∧ x ≤ 1000) (h0 : x ≤ n0) (h1 : x ≤ n1) (hrest : (st.map fun v => v.category).sum ≤ 8) (h : OkZ sc i nx lv (st) (cpy Z l0 l1 x) J Φ) : OkZ sc i pc lv (.int (I x) :: .int (I 0) :: .ref k1 :: .int (I 0) :: .ref k0 :: st) Z J Φ := by
  refine r_copy (n := x.toNat) (fs := (layC (V Z) J k0 (true, 0, l0, List.replicate n0 none)).2.2) (gs := (layC (V Z) J k1 (true, 0, l1, List.replicate n1 none)).2.2) hf (lay_get hl0) (lay_get hl1) (fun q => ?_) (I_nat hx.1 (by omega)) (by rw [layC_len]; omega) (by rw [layC_len]; omega) hrest ?_
  · have := (I_lt (x := x) (y := 0) ⟨by omega, by omega⟩ ⟨by omega, by omega⟩).mp q
    omega
  · have hn0 : ∀ k l n : Nat, LAYC[k]? = some (true, 0, l, List.replicate n none) → 0 < n := by
      intro k l n hl
      have key : ∀ k, k < 80 → 0 < (LAYC.getD k (false, 0, 0, [])).2.2.2.length := by decide +kernel
      have h1 := key k (List.getElem?_eq_some_iff.mp hl).1
      rw [List.getD_eq_getElem?_getD, hl] at h1
      simpa using h1
    have := lay0_cpy (Z := V Z) (J := J) (n := x.toNat) hl0 hl1 (by omega) (by omega)
    rw [Int.toNat_of_nonneg hx.1, V_cpy (lab_arr (hn0 _ _ _ hl0) hl0) (lab_arr (hn0 _ _ _ hl1) hl1)] at this
    show Ok _ _ _ _ _ ((lay0 (V Z) J).set k1 _) _ _ _
    rw [this]
    exact h
theorem z_raw {w1 w2 w3 w4 idx : Nat} {x : UInt32} (hf : fetch i pc = some (.invokestatic idx, nx, a, b, [w1, w2, w3, w4], .int 4)) (hrest : (st.map fun v => v.category).sum ≤ 8) (h : OkZ sc i nx lv (.int x.toInt32 :: st) Z J Φ) : OkZ sc i pc lv (.float x :: st) Z J Φ := r_raw hf hrest h
theorem z_callV0g {idx w1 w2 w3 w4 k ci lb : Nat} {ss : List (Option Nat)} {Ψ : ZΦ} (hf : fetch i pc = some (.invokevirtual idx, nx, a, 0, [w1, w2, w3, w4], cv)) (ha : Nat.blt a 154 = true) (hl : LAYC[k]? = some (false, ci, lb, ss)) (hci : (CL[ci]?).map (fun q => q.1) = some (mName a).cls) (hlen : Nat.ble (argL (.ref k :: [])).length (mMax a) = true) (hrest : Nat.ble (st.map fun v => v.category).sum 8 = true) (hM : Mz a (.ref k :: []) Z J Ψ) (h : ∀ r Z' J', Ψ r Z' J' → OkZ sc i nx lv (r.toList ++ st) Z' J' Φ) : OkZ sc i pc lv (.ref k :: st) Z J Φ := r_callV (dc := 0) (ds := 0) (As := []) hf (Nat.le_of_ble_eq_true ha) (lay_get hl) hci rfl (Nat.le_of_ble_eq_true hlen) (Nat.le_of_ble_eq_true hrest) (Ok.pad (by rw [lay_len, lay_sz]; exact hM)) (Ψ := fun r w' => ∃ Z' J', w' = lay Z' J' ∧ Ψ r Z' J') (hΨ := fun r w' q => by obtain ⟨Z', J', e1, -⟩ := q; rw [e1, lay_len, lay_sz, lay_len, lay_sz]; exact ⟨rfl, rfl⟩) (by rw [lay_len]; exact Nat.le_refl _) (by rw [lay_sz]; exact Nat.le_refl _) (fun r w' q => by obtain ⟨Z', J', e1, e2⟩ := q; rw [e1]; exact h r Z' J' e2)
theorem z_callV0 {idx w1 w2 w3 w4 k ci lb : Nat} {ss : List (Option Nat)} {v : Value} {Z1 : ZW} {J1 : Int64} (hf : fetch i pc = some (.invokevirtual idx, nx, a, 0, [w1, w2, w3, w4], cv)) (ha : Nat.blt a 154 = true) (hl : LAYC[k]? = some (false, ci, lb, ss)) (hci : (CL[ci]?).map (fun q => q.1) = some (mName a).cls) (hlen : Nat.ble (argL (.ref k :: [])).length (mMax a) = true) (hrest : Nat.ble (st.map fun v => v.category).sum 8 = true) (hM : D a (.ref k :: []) Z J (some v) Z1 J1) (h : OkZ sc i nx lv (v :: st) Z1 J1 Φ) : OkZ sc i pc lv (.ref k :: st) Z J Φ := z_callV0g hf ha hl hci hlen hrest hM (fun r Z' J' q => by obtain ⟨rfl, rfl, rfl⟩ := q; exact h)
theorem z_callV0v {idx w1 w2 w3 w4 k ci lb : Nat} {ss : List (Option Nat)} {Z1 : ZW} {J1 : Int64} (hf : fetch i pc = some (.invokevirtual idx, nx, a, 0, [w1, w2, w3, w4], cv)) (ha : Nat.blt a 154 = true) (hl : LAYC[k]? = some (false, ci, lb, ss)) (hci : (CL[ci]?).map (fun q => q.1) = some (mName a).cls) (hlen : Nat.ble (argL (.ref k :: [])).length (mMax a) = true) (hrest : Nat.ble (st.map fun v => v.category).sum 8 = true) (hM : D a (.ref k :: []) Z J none Z1 J1) (h : OkZ sc i nx lv (st) Z1 J1 Φ) : OkZ sc i pc lv (.ref k :: st) Z J Φ := z_callV0g hf ha hl hci hlen hrest hM (fun r Z' J' q => by obtain ⟨rfl, rfl, rfl⟩ := q; exact h)
theorem z_callV1g {idx w1 w2 w3 w4 k ci lb : Nat} {ss : List (Option Nat)} {Ψ : ZΦ} {x0 : Value} (hf : fetch i pc = some (.invokevirtual idx, nx, a, 1, [w1, w2, w3, w4], cv)) (ha : Nat.blt a 154 = true) (hl : LAYC[k]? = some (false, ci, lb, ss)) (hci : (CL[ci]?).map (fun q => q.1) = some (mName a).cls) (hlen : Nat.ble (argL (.ref k :: [x0])).length (mMax a) = true) (hrest : Nat.ble (st.map fun v => v.category).sum 8 = true) (hM : Mz a (.ref k :: [x0]) Z J Ψ) (h : ∀ r Z' J', Ψ r Z' J' → OkZ sc i nx lv (r.toList ++ st) Z' J' Φ) : OkZ sc i pc lv (x0 :: .ref k :: st) Z J Φ := r_callV (dc := 0) (ds := 0) (As := [x0]) hf (Nat.le_of_ble_eq_true ha) (lay_get hl) hci rfl (Nat.le_of_ble_eq_true hlen) (Nat.le_of_ble_eq_true hrest) (Ok.pad (by rw [lay_len, lay_sz]; exact hM)) (Ψ := fun r w' => ∃ Z' J', w' = lay Z' J' ∧ Ψ r Z' J') (hΨ := fun r w' q => by obtain ⟨Z', J', e1, -⟩ := q; rw [e1, lay_len, lay_sz, lay_len, lay_sz]; exact ⟨rfl, rfl⟩) (by rw [lay_len]; exact Nat.le_refl _) (by rw [lay_sz]; exact Nat.le_refl _) (fun r w' q => by obtain ⟨Z', J', e1, e2⟩ := q; rw [e1]; exact h r Z' J' e2)
theorem z_callV1 {idx w1 w2 w3 w4 k ci lb : Nat} {ss : List (Option Nat)} {v : Value} {Z1 : ZW} {J1 : Int64} {x0 : Value} (hf : fetch i pc = some (.invokevirtual idx, nx, a, 1, [w1, w2, w3, w4], cv)) (ha : Nat.blt a 154 = true) (hl : LAYC[k]? = some (false, ci, lb, ss)) (hci : (CL[ci]?).map (fun q => q.1) = some (mName a).cls) (hlen : Nat.ble (argL (.ref k :: [x0])).length (mMax a) = true) (hrest : Nat.ble (st.map fun v => v.category).sum 8 = true) (hM : D a (.ref k :: [x0]) Z J (some v) Z1 J1) (h : OkZ sc i nx lv (v :: st) Z1 J1 Φ) : OkZ sc i pc lv (x0 :: .ref k :: st) Z J Φ := z_callV1g hf ha hl hci hlen hrest hM (fun r Z' J' q => by obtain ⟨rfl, rfl, rfl⟩ := q; exact h)
theorem z_callV1v {idx w1 w2 w3 w4 k ci lb : Nat} {ss : List (Option Nat)} {Z1 : ZW} {J1 : Int64} {x0 : Value} (hf : fetch i pc = some (.invokevirtual idx, nx, a, 1, [w1, w2, w3, w4], cv)) (ha : Nat.blt a 154 = true) (hl : LAYC[k]? = some (false, ci, lb, ss)) (hci : (CL[ci]?).map (fun q => q.1) = some (mName a).cls) (hlen : Nat.ble (argL (.ref k :: [x0])).length (mMax a) = true) (hrest : Nat.ble (st.map fun v => v.category).sum 8 = true) (hM : D a (.ref k :: [x0]) Z J none Z1 J1) (h : OkZ sc i nx lv (st) Z1 J1 Φ) : OkZ sc i pc lv (x0 :: .ref k :: st) Z J Φ := z_callV1g hf ha hl hci hlen hrest hM (fun r Z' J' q => by obtain ⟨rfl, rfl, rfl⟩ := q; exact h)
theorem z_callV2g {idx w1 w2 w3 w4 k ci lb : Nat} {ss : List (Option Nat)} {Ψ : ZΦ} {x0 x1 : Value} (hf : fetch i pc = some (.invokevirtual idx, nx, a, 2, [w1, w2, w3, w4], cv)) (ha : Nat.blt a 154 = true) (hl : LAYC[k]? = some (false, ci, lb, ss)) (hci : (CL[ci]?).map (fun q => q.1) = some (mName a).cls) (hlen : Nat.ble (argL (.ref k :: [x0, x1])).length (mMax a) = true) (hrest : Nat.ble (st.map fun v => v.category).sum 8 = true) (hM : Mz a (.ref k :: [x0, x1]) Z J Ψ) (h : ∀ r Z' J', Ψ r Z' J' → OkZ sc i nx lv (r.toList ++ st) Z' J' Φ) : OkZ sc i pc lv (x1 :: x0 :: .ref k :: st) Z J Φ := r_callV (dc := 0) (ds := 0) (As := [x0, x1]) hf (Nat.le_of_ble_eq_true ha) (lay_get hl) hci rfl (Nat.le_of_ble_eq_true hlen) (Nat.le_of_ble_eq_true hrest) (Ok.pad (by rw [lay_len, lay_sz]; exact hM)) (Ψ := fun r w' => ∃ Z' J', w' = lay Z' J' ∧ Ψ r Z' J') (hΨ := fun r w' q => by obtain ⟨Z', J', e1, -⟩ := q; rw [e1, lay_len, lay_sz, lay_len, lay_sz]; exact ⟨rfl, rfl⟩) (by rw [lay_len]; exact Nat.le_refl _) (by rw [lay_sz]; exact Nat.le_refl _) (fun r w' q => by obtain ⟨Z', J', e1, e2⟩ := q; rw [e1]; exact h r Z' J' e2)
theorem z_callV2 {idx w1 w2 w3 w4 k ci lb : Nat} {ss : List (Option Nat)} {v : Value} {Z1 : ZW} {J1 : Int64} {x0 x1 : Value} (hf : fetch i pc = some (.invokevirtual idx, nx, a, 2, [w1, w2, w3, w4], cv)) (ha : Nat.blt a 154 = true) (hl : LAYC[k]? = some (false, ci, lb, ss)) (hci : (CL[ci]?).map (fun q => q.1) = some (mName a).cls) (hlen : Nat.ble (argL (.ref k :: [x0, x1])).length (mMax a) = true) (hrest : Nat.ble (st.map fun v => v.category).sum 8 = true) (hM : D a (.ref k :: [x0, x1]) Z J (some v) Z1 J1) (h : OkZ sc i nx lv (v :: st) Z1 J1 Φ) : OkZ sc i pc lv (x1 :: x0 :: .ref k :: st) Z J Φ := z_callV2g hf ha hl hci hlen hrest hM (fun r Z' J' q => by obtain ⟨rfl, rfl, rfl⟩ := q; exact h)
theorem z_callV2v {idx w1 w2 w3 w4 k ci lb : Nat} {ss : List (Option Nat)} {Z1 : ZW} {J1 : Int64} {x0 x1 : Value} (hf : fetch i pc = some (.invokevirtual idx, nx, a, 2, [w1, w2, w3, w4], cv)) (ha : Nat.blt a 154 = true) (hl : LAYC[k]? = some (false, ci, lb, ss)) (hci : (CL[ci]?).map (fun q => q.1) = some (mName a).cls) (hlen : Nat.ble (argL (.ref k :: [x0, x1])).length (mMax a) = true) (hrest : Nat.ble (st.map fun v => v.category).sum 8 = true) (hM : D a (.ref k :: [x0, x1]) Z J none Z1 J1) (h : OkZ sc i nx lv (st) Z1 J1 Φ) : OkZ sc i pc lv (x1 :: x0 :: .ref k :: st) Z J Φ := z_callV2g hf ha hl hci hlen hrest hM (fun r Z' J' q => by obtain ⟨rfl, rfl, rfl⟩ := q; exact h)
theorem z_callV3g {idx w1 w2 w3 w4 k ci lb : Nat} {ss : List (Option Nat)} {Ψ : ZΦ} {x0 x1 x2 : Value} (hf : fetch i pc = some (.invokevirtual idx, nx, a, 3, [w1, w2, w3, w4], cv)) (ha : Nat.blt a 154 = true) (hl : LAYC[k]? = some (false, ci, lb, ss)) (hci : (CL[ci]?).map (fun q => q.1) = some (mName a).cls) (hlen : Nat.ble (argL (.ref k :: [x0, x1, x2])).length (mMax a) = true) (hrest : Nat.ble (st.map fun v => v.category).sum 8 = true) (hM : Mz a (.ref k :: [x0, x1, x2]) Z J Ψ) (h : ∀ r Z' J', Ψ r Z' J' → OkZ sc i nx lv (r.toList ++ st) Z' J' Φ) : OkZ sc i pc lv (x2 :: x1 :: x0 :: .ref k :: st) Z J Φ := r_callV (dc := 0) (ds := 0) (As := [x0, x1, x2]) hf (Nat.le_of_ble_eq_true ha) (lay_get hl) hci rfl (Nat.le_of_ble_eq_true hlen) (Nat.le_of_ble_eq_true hrest) (Ok.pad (by rw [lay_len, lay_sz]; exact hM)) (Ψ := fun r w' => ∃ Z' J', w' = lay Z' J' ∧ Ψ r Z' J') (hΨ := fun r w' q => by obtain ⟨Z', J', e1, -⟩ := q; rw [e1, lay_len, lay_sz, lay_len, lay_sz]; exact ⟨rfl, rfl⟩) (by rw [lay_len]; exact Nat.le_refl _) (by rw [lay_sz]; exact Nat.le_refl _) (fun r w' q => by obtain ⟨Z', J', e1, e2⟩ := q; rw [e1]; exact h r Z' J' e2)
theorem z_callV3 {idx w1 w2 w3 w4 k ci lb : Nat} {ss : List (Option Nat)} {v : Value} {Z1 : ZW} {J1 : Int64} {x0 x1 x2 : Value} (hf : fetch i pc = some (.invokevirtual idx, nx, a, 3, [w1, w2, w3, w4], cv)) (ha : Nat.blt a 154 = true) (hl : LAYC[k]? = some (false, ci, lb, ss)) (hci : (CL[ci]?).map (fun q => q.1) = some (mName a).cls) (hlen : Nat.ble (argL (.ref k :: [x0, x1, x2])).length (mMax a) = true) (hrest : Nat.ble (st.map fun v => v.category).sum 8 = true) (hM : D a (.ref k :: [x0, x1, x2]) Z J (some v) Z1 J1) (h : OkZ sc i nx lv (v :: st) Z1 J1 Φ) : OkZ sc i pc lv (x2 :: x1 :: x0 :: .ref k :: st) Z J Φ := z_callV3g hf ha hl hci hlen hrest hM (fun r Z' J' q => by obtain ⟨rfl, rfl, rfl⟩ := q; exact h)
theorem z_callV3v {idx w1 w2 w3 w4 k ci lb : Nat} {ss : List (Option Nat)} {Z1 : ZW} {J1 : Int64} {x0 x1 x2 : Value} (hf : fetch i pc = some (.invokevirtual idx, nx, a, 3, [w1, w2, w3, w4], cv)) (ha : Nat.blt a 154 = true) (hl : LAYC[k]? = some (false, ci, lb, ss)) (hci : (CL[ci]?).map (fun q => q.1) = some (mName a).cls) (hlen : Nat.ble (argL (.ref k :: [x0, x1, x2])).length (mMax a) = true) (hrest : Nat.ble (st.map fun v => v.category).sum 8 = true) (hM : D a (.ref k :: [x0, x1, x2]) Z J none Z1 J1) (h : OkZ sc i nx lv (st) Z1 J1 Φ) : OkZ sc i pc lv (x2 :: x1 :: x0 :: .ref k :: st) Z J Φ := z_callV3g hf ha hl hci hlen hrest hM (fun r Z' J' q => by obtain ⟨rfl, rfl, rfl⟩ := q; exact h)
theorem z_callV4g {idx w1 w2 w3 w4 k ci lb : Nat} {ss : List (Option Nat)} {Ψ : ZΦ} {x0 x1 x2 x3 : Value} (hf : fetch i pc = some (.invokevirtual idx, nx, a, 4, [w1, w2, w3, w4], cv)) (ha : Nat.blt a 154 = true) (hl : LAYC[k]? = some (false, ci, lb, ss)) (hci : (CL[ci]?).map (fun q => q.1) = some (mName a).cls) (hlen : Nat.ble (argL (.ref k :: [x0, x1, x2, x3])).length (mMax a) = true) (hrest : Nat.ble (st.map fun v => v.category).sum 8 = true) (hM : Mz a (.ref k :: [x0, x1, x2, x3]) Z J Ψ) (h : ∀ r Z' J', Ψ r Z' J' → OkZ sc i nx lv (r.toList ++ st) Z' J' Φ) : OkZ sc i pc lv (x3 :: x2 :: x1 :: x0 :: .ref k :: st) Z J Φ := r_callV (dc := 0) (ds := 0) (As := [x0, x1, x2, x3]) hf (Nat.le_of_ble_eq_true ha) (lay_get hl) hci rfl (Nat.le_of_ble_eq_true hlen) (Nat.le_of_ble_eq_true hrest) (Ok.pad (by rw [lay_len, lay_sz]; exact hM)) (Ψ := fun r w' => ∃ Z' J', w' = lay Z' J' ∧ Ψ r Z' J') (hΨ := fun r w' q => by obtain ⟨Z', J', e1, -⟩ := q; rw [e1, lay_len, lay_sz, lay_len, lay_sz]; exact ⟨rfl, rfl⟩) (by rw [lay_len]; exact Nat.le_refl _) (by rw [lay_sz]; exact Nat.le_refl _) (fun r w' q => by obtain ⟨Z', J', e1, e2⟩ := q; rw [e1]; exact h r Z' J' e2)
theorem z_callV4 {idx w1 w2 w3 w4 k ci lb : Nat} {ss : List (Option Nat)} {v : Value} {Z1 : ZW} {J1 : Int64} {x0 x1 x2 x3 : Value} (hf : fetch i pc = some (.invokevirtual idx, nx, a, 4, [w1, w2, w3, w4], cv)) (ha : Nat.blt a 154 = true) (hl : LAYC[k]? = some (false, ci, lb, ss)) (hci : (CL[ci]?).map (fun q => q.1) = some (mName a).cls) (hlen : Nat.ble (argL (.ref k :: [x0, x1, x2, x3])).length (mMax a) = true) (hrest : Nat.ble (st.map fun v => v.category).sum 8 = true) (hM : D a (.ref k :: [x0, x1, x2, x3]) Z J (some v) Z1 J1) (h : OkZ sc i nx lv (v :: st) Z1 J1 Φ) : OkZ sc i pc lv (x3 :: x2 :: x1 :: x0 :: .ref k :: st) Z J Φ := z_callV4g hf ha hl hci hlen hrest hM (fun r Z' J' q => by obtain ⟨rfl, rfl, rfl⟩ := q; exact h)
theorem z_callV4v {idx w1 w2 w3 w4 k ci lb : Nat} {ss : List (Option Nat)} {Z1 : ZW} {J1 : Int64} {x0 x1 x2 x3 : Value} (hf : fetch i pc = some (.invokevirtual idx, nx, a, 4, [w1, w2, w3, w4], cv)) (ha : Nat.blt a 154 = true) (hl : LAYC[k]? = some (false, ci, lb, ss)) (hci : (CL[ci]?).map (fun q => q.1) = some (mName a).cls) (hlen : Nat.ble (argL (.ref k :: [x0, x1, x2, x3])).length (mMax a) = true) (hrest : Nat.ble (st.map fun v => v.category).sum 8 = true) (hM : D a (.ref k :: [x0, x1, x2, x3]) Z J none Z1 J1) (h : OkZ sc i nx lv (st) Z1 J1 Φ) : OkZ sc i pc lv (x3 :: x2 :: x1 :: x0 :: .ref k :: st) Z J Φ := z_callV4g hf ha hl hci hlen hrest hM (fun r Z' J' q => by obtain ⟨rfl, rfl, rfl⟩ := q; exact h)
theorem z_callV5g {idx w1 w2 w3 w4 k ci lb : Nat} {ss : List (Option Nat)} {Ψ : ZΦ} {x0 x1 x2 x3 x4 : Value} (hf : fetch i pc = some (.invokevirtual idx, nx, a, 5, [w1, w2, w3, w4], cv)) (ha : Nat.blt a 154 = true) (hl : LAYC[k]? = some (false, ci, lb, ss)) (hci : (CL[ci]?).map (fun q => q.1) = some (mName a).cls) (hlen : Nat.ble (argL (.ref k :: [x0, x1, x2, x3, x4])).length (mMax a) = true) (hrest : Nat.ble (st.map fun v => v.category).sum 8 = true) (hM : Mz a (.ref k :: [x0, x1, x2, x3, x4]) Z J Ψ) (h : ∀ r Z' J', Ψ r Z' J' → OkZ sc i nx lv (r.toList ++ st) Z' J' Φ) : OkZ sc i pc lv (x4 :: x3 :: x2 :: x1 :: x0 :: .ref k :: st) Z J Φ := r_callV (dc := 0) (ds := 0) (As := [x0, x1, x2, x3, x4]) hf (Nat.le_of_ble_eq_true ha) (lay_get hl) hci rfl (Nat.le_of_ble_eq_true hlen) (Nat.le_of_ble_eq_true hrest) (Ok.pad (by rw [lay_len, lay_sz]; exact hM)) (Ψ := fun r w' => ∃ Z' J', w' = lay Z' J' ∧ Ψ r Z' J') (hΨ := fun r w' q => by obtain ⟨Z', J', e1, -⟩ := q; rw [e1, lay_len, lay_sz, lay_len, lay_sz]; exact ⟨rfl, rfl⟩) (by rw [lay_len]; exact Nat.le_refl _) (by rw [lay_sz]; exact Nat.le_refl _) (fun r w' q => by obtain ⟨Z', J', e1, e2⟩ := q; rw [e1]; exact h r Z' J' e2)
theorem z_callV5 {idx w1 w2 w3 w4 k ci lb : Nat} {ss : List (Option Nat)} {v : Value} {Z1 : ZW} {J1 : Int64} {x0 x1 x2 x3 x4 : Value} (hf : fetch i pc = some (.invokevirtual idx, nx, a, 5, [w1, w2, w3, w4], cv)) (ha : Nat.blt a 154 = true) (hl : LAYC[k]? = some (false, ci, lb, ss)) (hci : (CL[ci]?).map (fun q => q.1) = some (mName a).cls) (hlen : Nat.ble (argL (.ref k :: [x0, x1, x2, x3, x4])).length (mMax a) = true) (hrest : Nat.ble (st.map fun v => v.category).sum 8 = true) (hM : D a (.ref k :: [x0, x1, x2, x3, x4]) Z J (some v) Z1 J1) (h : OkZ sc i nx lv (v :: st) Z1 J1 Φ) : OkZ sc i pc lv (x4 :: x3 :: x2 :: x1 :: x0 :: .ref k :: st) Z J Φ := z_callV5g hf ha hl hci hlen hrest hM (fun r Z' J' q => by obtain ⟨rfl, rfl, rfl⟩ := q; exact h)
theorem z_callV5v {idx w1 w2 w3 w4 k ci lb : Nat} {ss : List (Option Nat)} {Z1 : ZW} {J1 : Int64} {x0 x1 x2 x3 x4 : Value} (hf : fetch i pc = some (.invokevirtual idx, nx, a, 5, [w1, w2, w3, w4], cv)) (ha : Nat.blt a 154 = true) (hl : LAYC[k]? = some (false, ci, lb, ss)) (hci : (CL[ci]?).map (fun q => q.1) = some (mName a).cls) (hlen : Nat.ble (argL (.ref k :: [x0, x1, x2, x3, x4])).length (mMax a) = true) (hrest : Nat.ble (st.map fun v => v.category).sum 8 = true) (hM : D a (.ref k :: [x0, x1, x2, x3, x4]) Z J none Z1 J1) (h : OkZ sc i nx lv (st) Z1 J1 Φ) : OkZ sc i pc lv (x4 :: x3 :: x2 :: x1 :: x0 :: .ref k :: st) Z J Φ := z_callV5g hf ha hl hci hlen hrest hM (fun r Z' J' q => by obtain ⟨rfl, rfl, rfl⟩ := q; exact h)
theorem z_callS1g {idx w1 w2 w3 : Nat} {Ψ : ZΦ} {x0 : Value} (hf : fetch i pc = some (.invokestatic idx, nx, a, 1, [w1, w2, w3], cv)) (ha : Nat.blt a 154 = true) (hlen : Nat.ble (argL [x0]).length (mMax a) = true) (hrest : Nat.ble (st.map fun v => v.category).sum 8 = true) (hM : Mz a [x0] Z J Ψ) (h : ∀ r Z' J', Ψ r Z' J' → OkZ sc i nx lv (r.toList ++ st) Z' J' Φ) : OkZ sc i pc lv (x0 :: st) Z J Φ := r_callS (dc := 0) (ds := 0) (As := [x0]) hf (Nat.le_of_ble_eq_true ha) rfl (Nat.le_of_ble_eq_true hlen) (Nat.le_of_ble_eq_true hrest) (Ok.pad (by rw [lay_len, lay_sz]; exact hM)) (Ψ := fun r w' => ∃ Z' J', w' = lay Z' J' ∧ Ψ r Z' J') (hΨ := fun r w' q => by obtain ⟨Z', J', e1, -⟩ := q; rw [e1, lay_len, lay_sz, lay_len, lay_sz]; exact ⟨rfl, rfl⟩) (by rw [lay_len]; exact Nat.le_refl _) (by rw [lay_sz]; exact Nat.le_refl _) (fun r w' q => by obtain ⟨Z', J', e1, e2⟩ := q; rw [e1]; exact h r Z' J' e2)
theorem z_callS1 {idx w1 w2 w3 : Nat} {v : Value} {Z1 : ZW} {J1 : Int64} {x0 : Value} (hf : fetch i pc = some (.invokestatic idx, nx, a, 1, [w1, w2, w3], cv)) (ha : Nat.blt a 154 = true) (hlen : Nat.ble (argL [x0]).length (mMax a) = true) (hrest : Nat.ble (st.map fun v => v.category).sum 8 = true) (hM : D a [x0] Z J (some v) Z1 J1) (h : OkZ sc i nx lv (v :: st) Z1 J1 Φ) : OkZ sc i pc lv (x0 :: st) Z J Φ := z_callS1g hf ha hlen hrest hM (fun r Z' J' q => by obtain ⟨rfl, rfl, rfl⟩ := q; exact h)
theorem z_callS2g {idx w1 w2 w3 : Nat} {Ψ : ZΦ} {x0 x1 : Value} (hf : fetch i pc = some (.invokestatic idx, nx, a, 2, [w1, w2, w3], cv)) (ha : Nat.blt a 154 = true) (hlen : Nat.ble (argL [x0, x1]).length (mMax a) = true) (hrest : Nat.ble (st.map fun v => v.category).sum 8 = true) (hM : Mz a [x0, x1] Z J Ψ) (h : ∀ r Z' J', Ψ r Z' J' → OkZ sc i nx lv (r.toList ++ st) Z' J' Φ) : OkZ sc i pc lv (x1 :: x0 :: st) Z J Φ := r_callS (dc := 0) (ds := 0) (As := [x0, x1]) hf (Nat.le_of_ble_eq_true ha) rfl (Nat.le_of_ble_eq_true hlen) (Nat.le_of_ble_eq_true hrest) (Ok.pad (by rw [lay_len, lay_sz]; exact hM)) (Ψ := fun r w' => ∃ Z' J', w' = lay Z' J' ∧ Ψ r Z' J') (hΨ := fun r w' q => by obtain ⟨Z', J', e1, -⟩ := q; rw [e1, lay_len, lay_sz, lay_len, lay_sz]; exact ⟨rfl, rfl⟩) (by rw [lay_len]; exact Nat.le_refl _) (by rw [lay_sz]; exact Nat.le_refl _) (fun r w' q => by obtain ⟨Z', J', e1, e2⟩ := q; rw [e1]; exact h r Z' J' e2)
theorem z_callS2 {idx w1 w2 w3 : Nat} {v : Value} {Z1 : ZW} {J1 : Int64} {x0 x1 : Value} (hf : fetch i pc = some (.invokestatic idx, nx, a, 2, [w1, w2, w3], cv)) (ha : Nat.blt a 154 = true) (hlen : Nat.ble (argL [x0, x1]).length (mMax a) = true) (hrest : Nat.ble (st.map fun v => v.category).sum 8 = true) (hM : D a [x0, x1] Z J (some v) Z1 J1) (h : OkZ sc i nx lv (v :: st) Z1 J1 Φ) : OkZ sc i pc lv (x1 :: x0 :: st) Z J Φ := z_callS2g hf ha hlen hrest hM (fun r Z' J' q => by obtain ⟨rfl, rfl, rfl⟩ := q; exact h)
theorem z_callS3g {idx w1 w2 w3 : Nat} {Ψ : ZΦ} {x0 x1 x2 : Value} (hf : fetch i pc = some (.invokestatic idx, nx, a, 3, [w1, w2, w3], cv)) (ha : Nat.blt a 154 = true) (hlen : Nat.ble (argL [x0, x1, x2]).length (mMax a) = true) (hrest : Nat.ble (st.map fun v => v.category).sum 8 = true) (hM : Mz a [x0, x1, x2] Z J Ψ) (h : ∀ r Z' J', Ψ r Z' J' → OkZ sc i nx lv (r.toList ++ st) Z' J' Φ) : OkZ sc i pc lv (x2 :: x1 :: x0 :: st) Z J Φ := r_callS (dc := 0) (ds := 0) (As := [x0, x1, x2]) hf (Nat.le_of_ble_eq_true ha) rfl (Nat.le_of_ble_eq_true hlen) (Nat.le_of_ble_eq_true hrest) (Ok.pad (by rw [lay_len, lay_sz]; exact hM)) (Ψ := fun r w' => ∃ Z' J', w' = lay Z' J' ∧ Ψ r Z' J') (hΨ := fun r w' q => by obtain ⟨Z', J', e1, -⟩ := q; rw [e1, lay_len, lay_sz, lay_len, lay_sz]; exact ⟨rfl, rfl⟩) (by rw [lay_len]; exact Nat.le_refl _) (by rw [lay_sz]; exact Nat.le_refl _) (fun r w' q => by obtain ⟨Z', J', e1, e2⟩ := q; rw [e1]; exact h r Z' J' e2)
theorem z_callS3 {idx w1 w2 w3 : Nat} {v : Value} {Z1 : ZW} {J1 : Int64} {x0 x1 x2 : Value} (hf : fetch i pc = some (.invokestatic idx, nx, a, 3, [w1, w2, w3], cv)) (ha : Nat.blt a 154 = true) (hlen : Nat.ble (argL [x0, x1, x2]).length (mMax a) = true) (hrest : Nat.ble (st.map fun v => v.category).sum 8 = true) (hM : D a [x0, x1, x2] Z J (some v) Z1 J1) (h : OkZ sc i nx lv (v :: st) Z1 J1 Φ) : OkZ sc i pc lv (x2 :: x1 :: x0 :: st) Z J Φ := z_callS3g hf ha hlen hrest hM (fun r Z' J' q => by obtain ⟨rfl, rfl, rfl⟩ := q; exact h)
end ZR
