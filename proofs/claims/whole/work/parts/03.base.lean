/-! the machine M over the tables: its words, its worlds, and what a world says of the heap -/
def mRow (i : Nat) : MRow := METHS.getD i (⟨"", "", ""⟩, ⟨#[]⟩, 0, none, 0, 0, [])
def mName (i : Nat) : MethodName := (mRow i).1
def mCode (i : Nat) : ByteArray := (mRow i).2.1
def mMax (i : Nat) : Nat := (mRow i).2.2.1
def mRet (i : Nat) : Option FieldType := (mRow i).2.2.2.1
def mFr (i : Nat) : Nat := (mRow i).2.2.2.2.1
def mLo (i : Nat) : Nat := (mRow i).2.2.2.2.2.1
def mOps (i : Nat) : List (Nat × MOp) := (mRow i).2.2.2.2.2.2
def fetch (i pc : Nat) : Option MOp := ((mOps i).find? (fun q => q.1 == pc)).map (fun q => q.2)
def wk (wi : Nat) (w : Cond) : Bool := decide (lw_tbl[wi]? = some w) && goodWord w
theorem wk_mem {wi : Nat} {w : Cond} (h : wk wi w = true) : w ∈ GW := by
  simp only [wk, Bool.and_eq_true, decide_eq_true_eq] at h
  exact List.mem_filter.mpr ⟨List.mem_of_getElem? h.1, h.2⟩
def ilen : Instr → Nat
  | .aload _ => 2
  | .iload _ => 2
  | .istore _ => 2
  | .astore _ => 2
  | .bipush _ => 2
  | .ldc _ => 2
  | .newarray _ => 2
  | .getfield _ => 3
  | .putfield _ => 3
  | .goto _ => 3
  | .if_icmp _ _ => 3
  | .ifCond _ _ => 3
  | .ifnonnull _ => 3
  | .iinc _ _ => 3
  | .invokevirtual _ => 3
  | .invokespecial _ => 3
  | .invokestatic _ => 3
  | .new _ => 3
  | .anewarray _ => 3
  | .sipush _ => 3
  | .ldc2_w _ => 3
  | _ => 1
def NESTS : List (Nat × MethodName) := [(9, yX6_init), (28, yX2_init), (35, yX4_init), (49, yX1_init)]
abbrev objY : MethodName := ⟨"java/lang/Object", "<init>", "()V"⟩
abbrev rawY : MethodName := ⟨"java/lang/Float", "floatToRawIntBits", "(F)I"⟩
def okName (y : MethodName) (n : Nat) : Bool := decide (y.cls ≠ "java/lang/invoke/MethodHandle") && decide (y.cls ≠ "java/lang/invoke/VarHandle") && decide ((parseMethodDescriptor y.desc).map (fun d => d.parameters.length) = some n)
def okCall (i a b : Nat) : Bool := okName (mName a) b && Nat.ble (mFr a + 1) (mFr i) && Nat.ble (8 + (mMax a + 11) + mLo a) (mLo i)
/-- what is checked of a row beside its bytes -/
def okAt (i pc : Nat) (ins : Instr) (a b : Nat) (ws : List Nat) (cv : Value) : Bool :=
  match ins, ws with
  | .getfield idx, [w1] => (match CL[a]? with
    | some C => Nat.blt b C.2.2 && wk w1 (.fieldLink (mName i).cls idx (C.2.1 b).1 (C.2.1 b).2.1 (C.2.1 b).2.2.1)
    | none => false)
  | .putfield idx, [w1] => (match CL[a]? with
    | some C => Nat.blt b C.2.2 && wk w1 (.fieldLink (mName i).cls idx (C.2.1 b).1 (C.2.1 b).2.1 (C.2.1 b).2.2.1) && (!(C.2.1 b).2.2.2 || (decide ((mName i).name = "<init>") && decide ((C.2.1 b).1 = (mName i).cls)))
    | none => false)
  | .getfield _, _ => false
  | .putfield _, _ => false
  | .goto off, _ => decide ((pc : Int) + off = (a : Int))
  | .if_icmp _ off, _ => decide ((pc : Int) + off = (a : Int))
  | .ifCond _ off, _ => decide ((pc : Int) + off = (a : Int))
  | .ifnonnull off, _ => decide ((pc : Int) + off = (a : Int))
  | .invokevirtual idx, [w1, w2, w3, w4] => okCall i a b && wk w1 (.methodLink (mName i).cls idx (mName a)) && wk w2 (.instanceMethod (mName a)) && wk w3 (.selects (mName a).cls (mName a) (mName a)) && wk w4 (.initialized (mName a).cls)
  | .invokevirtual _, _ => false
  | .invokestatic idx, [w1, w2, w3] => okCall i a b && wk w1 (.methodLink (mName i).cls idx (mName a)) && wk w2 (.static (mName a)) && wk w3 (.initialized (mName a).cls)
  | .invokestatic idx, [w1, w2, w3, w4] => Nat.ble 1 (mFr i) && Nat.ble 26 (mLo i) && ((decide (cv = .int 3) && wk w1 (.methodLink (mName i).cls idx arraycopyName) && wk w2 (.native arraycopyName) && wk w3 (.static arraycopyName) && wk w4 (.initialized "java/lang/System")) || (decide (cv = .int 4) && wk w1 (.methodLink (mName i).cls idx rawY) && wk w2 (.native rawY) && wk w3 (.static rawY) && wk w4 (.initialized "java/lang/Float")))
  | .invokestatic _, _ => false
  | .invokespecial idx, [w1, w2, w3] => decide (cv = .null) && okCall i a b && decide ((mName a).name = "<init>") && decide (mRet a = none) && wk w1 (.methodLink (mName i).cls idx (mName a)) && wk w2 (.instanceMethod (mName a)) && wk w3 (.initialized (mName a).cls)
  | .invokespecial idx, [w1, w2] => (decide (cv = .int 2) && Nat.ble 1 (mFr i) && Nat.ble 20 (mLo i) && wk w1 (.methodLink (mName i).cls idx objY) && wk w2 (.instanceMethod objY)) || (decide (cv = .int 1) && okCall i a b && decide ((mName a).name = "<init>") && decide (mRet a = none) && decide ((mName i).cls = RX7) && decide ((idx, mName a) ∈ NESTS) && wk w1 (.instanceMethod (mName a)) && wk w2 (.initialized (mName a).cls))
  | .invokespecial _, _ => false
  | .new idx, [w1, w2, w3] => (match CL[a]? with
    | some C => wk w1 (.classLink (mName i).cls idx C.1) && wk w2 (.instantiable C.1 C.2.2) && wk w3 (.initialized C.1)
    | none => false)
  | .new _, _ => false
  | .newarray t, [w1] => (decide (a = 0 ∧ t = .int) && wk w1 (.arrayClass .int)) || (decide (a = 1 ∧ t = .boolean) && wk w1 (.arrayClass .boolean))
  | .newarray _, _ => false
  | .anewarray idx, [w1] => decide (a = 5) && wk w1 (.classLink (mName i).cls idx RX5)
  | .anewarray _, _ => false
  | .ldc idx, [w1] => (match cv with
    | .int v => wk w1 (.constant (mName i).cls idx v)
    | .float v => wk w1 (.constantFloat (mName i).cls idx v)
    | _ => false)
  | .ldc _, _ => false
  | .ldc2_w idx, [w1] => (match cv with
    | .long v => wk w1 (.constantLong (mName i).cls idx v)
    | _ => false)
  | .ldc2_w _, _ => false
  | _, _ => true
def isSw : Instr → Bool
  | .tableswitch _ _ _ _ => true
  | _ => false
def okOp (i pc : Nat) (q : MOp) : Bool := match q with
  | (ins, nx, a, b, ws, cv) => decide (decode (mCode i) pc = .ok (ins, nx - pc)) && (isSw ins || decide (nx = pc + ilen ins)) && okAt i pc ins a b ws cv
def okM (i : Nat) : Bool := (mOps i).all (fun q => okOp i q.1 q.2)
