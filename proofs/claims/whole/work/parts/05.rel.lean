/-! the worlds of M, what they say of the heap, and the judgement Ok -/
abbrev MCell : Type := Bool × Nat × List Value
abbrev MW : Type := List MCell
def tr (o : Nat × Nat) : Value → Value
  | .int x => .int x
  | .long x => .long x
  | .float x => .float x
  | .double x => .double x
  | .null => .null
  | .ref k => .ref (if k = 1000 then o.2 else o.1 + k)
  | .retAddr x => .retAddr x
def trO (o : Nat × Nat) : Option Value → Option Nat
  | some (.ref k) => some (o.1 + k)
  | _ => none
def trI : Option Value → Int32
  | some (.int x) => x
  | _ => 0
def trC (o : Nat × Nat) (aC : Nat → ClassId) : MCell → va_E
  | (true, 0, fs) => .inl (aC 0, fs.length, .inl (fun j => trI fs[j]?))
  | (true, 1, fs) => .inl (aC 1, fs.length, .inl (fun j => trI fs[j]?))
  | (true, _, fs) => .inl (aC 2, fs.length, .inr (.inr (.inr (.inr (fun j => trO o fs[j]?)))))
  | (false, ci, fs) => .inr (ci, fs.map (tr o))
def trW (o : Nat × Nat) (aC : Nat → ClassId) (w : MW) : va_W := w.mapIdx (fun k c => (o.1 + k, trC o aC c))
def wsz (w : MW) : Nat := (w.map (fun c => c.2.2.length)).sum
theorem tr_cat (o : Nat × Nat) (v : Value) : (tr o v).category = v.category := by cases v <;> rfl
theorem trW_get {o : Nat × Nat} {aC : Nat → ClassId} {w : MW} {k : Nat} {c : MCell} (h : w[k]? = some c) : (trW o aC w)[k]? = some (o.1 + k, trC o aC c) := by
  simp [trW, List.getElem?_mapIdx, h]
theorem trW_of {o : Nat × Nat} {aC : Nat → ClassId} {w : MW} {k : Nat} {q : Nat × va_E} (h : (trW o aC w)[k]? = some q) : k < w.length ∧ q.1 = o.1 + k := by
  simp only [trW, List.getElem?_mapIdx, Option.map_eq_some_iff] at h
  obtain ⟨c, h1, h2⟩ := h
  exact ⟨(List.getElem?_eq_some_iff.mp h1).1, by rw [← h2]⟩
theorem trW_set (o : Nat × Nat) (aC : Nat → ClassId) (w : MW) (k : Nat) (c : MCell) : trW o aC (w.set k c) = (trW o aC w).set k (o.1 + k, trC o aC c) := by
  apply List.ext_getElem?
  intro j
  simp only [trW, List.getElem?_mapIdx, List.getElem?_set, List.length_mapIdx]
  by_cases hk : k = j
  · subst hk
    by_cases hl : k < w.length
    · simp [hl]
    · simp [hl]
  · simp [hk]
theorem trW_app (o : Nat × Nat) (aC : Nat → ClassId) (w : MW) (c : MCell) : trW o aC (w ++ [c]) = trW o aC w ++ [(o.1 + w.length, trC o aC c)] := by
  simp [trW, List.mapIdx_append]
def Up (o : Nat × Nat) : Nat → Prop := fun q => o.1 ≤ q
theorem trW_D (o : Nat × Nat) (aC : Nat → ClassId) (w : MW) : va_D (Up o) (trW o aC w) := by
  refine ⟨fun i j p q hp hq he => ?_, fun k q hq => ?_⟩
  · have h1 := (trW_of hp).2
    have h2 := (trW_of hq).2
    rw [h1, h2] at he
    omega
  · show o.1 ≤ q.1
    rw [(trW_of hq).2]
    omega
theorem wsz_set {w : MW} {k : Nat} {c c' : MCell} (h : w[k]? = some c) (hl : c'.2.2.length = c.2.2.length) : wsz (w.set k c') = wsz w := by
  unfold wsz
  rw [List.map_set, hl]
  congr 1
  apply List.ext_getElem?
  intro j
  rw [List.getElem?_set]
  by_cases hk : k = j
  · subst hk
    have hlt : k < w.length := (List.getElem?_eq_some_iff.mp h).1
    simp [hlt, h]
    rw [List.getElem?_eq_getElem hlt] at h
    rw [Option.some.inj h]
  · simp [hk]
theorem wsz_app (w : MW) (c : MCell) : wsz (w ++ [c]) = wsz w + c.2.2.length := by simp [wsz]
abbrev TYS (aC : Nat → ClassId) : List (ClassId × FieldType) := [(aC 0, .int), (aC 1, .boolean), (aC 2, .object RX5)]
def KU (D : va_G) (aC : Nat → ClassId) (U : State) : Prop := va_K D CL (TYS aC) U ∧ va_AO RX5 U ∧ ∀ q ∈ NESTS, va_Nw (.methodLinkNest RX7 q.1 q.2 RX7) U
theorem KU.warm {D : va_G} {aC : Nat → ClassId} {s U : State} (hW : s.WarmedH U.vm) (h : KU D aC s) : KU D aC U := ⟨va_K.moved hW.alike h.1, va_AO.moved hW.alike h.2.1, fun q hq => va_Nw.warmM hW (h.2.2 q hq)⟩
theorem KU.calling {D : va_G} {aC : Nat → ClassId} {U : State} (g : JFrame) (mk : MethodId) (a : Array Value) (h : KU D aC U) : KU D aC (U.calling g mk a) := ⟨va_K.moved (u := U) (U := U.calling g mk a) (Vm.Alike.refl U.vm) h.1, va_AO.moved (u := U) (U := U.calling g mk a) (Vm.Alike.refl U.vm) h.2.1, fun q hq => va_Nw.same (u := U) (U := U.calling g mk a) rfl rfl (h.2.2 q hq)⟩
def Rel (D : va_G) (aC : Nat → ClassId) (o : Nat × Nat) (w : MW) (H : Heap) : Prop := H.size = o.1 + w.length ∧ w.length ≤ 999 ∧ va_P D CL (trW o aC w) H
def lvA (o : Nat × Nat) (lv : List (Option Value)) : List (Nat × Value) := (List.range lv.length).filterMap (fun j => (lv[j]?.join).map (fun v => (j, tr o v)))
theorem lvA_mem {o : Nat × Nat} {lv : List (Option Value)} {j : Nat} {u : Value} : (j, u) ∈ lvA o lv ↔ ∃ v, lv[j]? = some (some v) ∧ u = tr o v := by
  simp only [lvA, List.mem_filterMap, List.mem_range, Option.map_eq_some_iff, Option.join_eq_some_iff]
  constructor
  · rintro ⟨a, ha, v, hv, he⟩
    cases he
    exact ⟨v, hv, rfl⟩
  · rintro ⟨v, hv, rfl⟩
    exact ⟨j, (List.getElem?_eq_some_iff.mp hv).1, v, hv, rfl⟩
theorem lvA_at {o : Nat × Nat} {ls : Array Slot} {n : Nat} {lv : List (Option Value)} (hl : lv_has ls n (lvA o lv)) {j : Nat} {v : Value} (h : lv[j]? = some (some v)) : ls[j]? = some (.val (tr o v)) := hl.2.2 (j, tr o v) (lvA_mem.mpr ⟨v, h, rfl⟩)
/-- a store at j kills no pair: what stands at j - 1 is of one word -/
def stG (lv : List (Option Value)) (j : Nat) : Bool := match j with
  | 0 => true
  | k + 1 => match lv[k]? with
    | some (some v) => decide (v.category = 1)
    | _ => true
theorem stG_of {lv : List (Option Value)} {j k : Nat} {v : Value} (hg : stG lv j = true) (hk : k + 1 = j) (hv : lv[k]? = some (some v)) : v.category = 1 := by
  subst hk
  simpa [stG, hv] using hg
theorem lvA_st1 {o : Nat × Nat} {ls : Array Slot} {n j : Nat} {lv : List (Option Value)} {v : Value} (hg : stG lv j = true) (hl : lv_has ls n ((j, tr o v) :: (lvA o lv).filter (fun q => !(q.1 == j) && !(q.1 + 1 == j && q.2.category == 2)))) : lv_has ls n (lvA o (lv.set j (some v))) := by
  refine ⟨hl.1, hl.2.1, fun q hq => ?_⟩
  obtain ⟨a, u⟩ := q
  obtain ⟨v0, h1, rfl⟩ := lvA_mem.mp hq
  rw [List.getElem?_set] at h1
  by_cases ha : j = a
  · subst ha
    rw [if_pos rfl] at h1
    split at h1
    · cases h1
      exact hl.2.2 _ List.mem_cons_self
    · cases h1
  · rw [if_neg ha] at h1
    refine hl.2.2 _ (List.mem_cons_of_mem _ (List.mem_filter.mpr ⟨lvA_mem.mpr ⟨v0, h1, rfl⟩, ?_⟩))
    have hne : (a == j) = false := by simpa using fun h => ha h.symm
    simp only [hne, Bool.not_false, Bool.true_and, Bool.not_eq_true', Bool.and_eq_false_iff, tr_cat]
    by_cases hk : a + 1 = j
    · right
      rw [stG_of hg hk h1]
      rfl
    · left
      simpa using hk
theorem lvA_st2 {o : Nat × Nat} {ls : Array Slot} {n j : Nat} {lv : List (Option Value)} {v : Value} (hg : stG lv j = true) (hl : lv_has ls n ((j, tr o v) :: (lvA o lv).filter (fun q => !(q.1 == j) && (!(q.1 == j + 1) && !(q.1 + 1 == j && q.2.category == 2))))) : lv_has ls n (lvA o ((lv.set j (some v)).set (j + 1) none)) := by
  refine ⟨hl.1, hl.2.1, fun q hq => ?_⟩
  obtain ⟨a, u⟩ := q
  obtain ⟨v0, h1, rfl⟩ := lvA_mem.mp hq
  rw [List.getElem?_set] at h1
  by_cases ha1 : j + 1 = a
  · rw [if_pos ha1] at h1
    split at h1 <;> cases h1
  · rw [if_neg ha1, List.getElem?_set] at h1
    by_cases ha : j = a
    · subst ha
      rw [if_pos rfl] at h1
      split at h1
      · cases h1
        exact hl.2.2 _ List.mem_cons_self
      · cases h1
    · rw [if_neg ha] at h1
      refine hl.2.2 _ (List.mem_cons_of_mem _ (List.mem_filter.mpr ⟨lvA_mem.mpr ⟨v0, h1, rfl⟩, ?_⟩))
      have hne : (a == j) = false := by simpa using fun h => ha h.symm
      have hne1 : (a == j + 1) = false := by simpa using fun h => ha1 h.symm
      simp only [hne, hne1, Bool.not_false, Bool.true_and, Bool.not_eq_true', Bool.and_eq_false_iff, tr_cat]
      by_cases hk : a + 1 = j
      · right
        rw [stG_of hg hk h1]
        rfl
      · left
        simpa using hk
def argL (vs : List Value) : List (Option Value) := vs.flatMap (fun v => if v.category = 2 then [some v, none] else [some v])
theorem argL_mem (o : Nat × Nat) (vs : List Value) : ∀ (i j : Nat) (v : Value), (argL vs)[j]? = some (some v) → (i + j, tr o v) ∈ lv_args i (vs.map (tr o)) := by
  induction vs with
  | nil => intro i j v h; simp [argL] at h
  | cons x t ih =>
    intro i j v h
    have hc : argL (x :: t) = (if x.category = 2 then [some x, none] else [some x]) ++ argL t := by simp [argL]
    rw [hc] at h
    show _ ∈ (i, tr o x) :: lv_args (if (tr o x).category = 2 then i + 2 else i + 1) (t.map (tr o))
    rw [tr_cat]
    by_cases hx : x.category = 2
    · rw [if_pos hx] at h ⊢
      match j, h with
      | 0, h => simp at h; subst h; exact List.mem_cons_self
      | 1, h => simp at h
      | k + 2, h =>
        have h2 : (argL t)[k]? = some (some v) := by simpa using h
        have := ih (i + 2) k v h2
        rw [show i + (k + 2) = i + 2 + k by omega]
        exact List.mem_cons_of_mem _ this
    · rw [if_neg hx] at h ⊢
      match j, h with
      | 0, h => simp at h; subst h; exact List.mem_cons_self
      | k + 1, h =>
        have h2 : (argL t)[k]? = some (some v) := by simpa using h
        have := ih (i + 1) k v h2
        rw [show i + (k + 1) = i + 1 + k by omega]
        exact List.mem_cons_of_mem _ this
theorem argL_len (o : Nat × Nat) (vs : List Value) : (lg_sl (vs.map (tr o))).length = (argL vs).length := by
  induction vs with
  | nil => rfl
  | cons x t ih =>
    have hc : argL (x :: t) = (if x.category = 2 then [some x, none] else [some x]) ++ argL t := by simp [argL]
    have hd : lg_sl ((x :: t).map (tr o)) = (if (tr o x).category = 2 then [.val (tr o x), .second] else [.val (tr o x)]) ++ lg_sl (t.map (tr o)) := by simp [lg_sl]
    rw [hc, hd, List.length_append, List.length_append, ih, tr_cat]
    split <;> rfl
def Ctx (i : Nat) (p : Program) (R : Room) (s : State) (m : MethodId) (args : Array Value) (meth : Method) (c : Code) (D : va_G) (aC : Nat → ClassId) : Prop :=
  p.tables.exec = Jvm.exec ∧ c.code = mCode i ∧ c.maxLocals = mMax i ∧ meth.sig.returnType = mRet i ∧ s.vm.findClass (mName i).cls = some m.cls ∧ (∀ w ∈ GW, w.before args s = true) ∧ meth.locks = false ∧ meth.name = (mName i).name ∧ KU D aC s ∧ mFr i ≤ R.frames ∧ mLo i ≤ R.locals
def Sc (sc : Option (Nat × (Nat → Int32))) (o : Nat × Nat) (s : State) : Prop := match sc with
  | none => True
  | some (L, xs) => va_X o.2 L xs s s.heap ∧ o.2 < s.heap.size ∧ o.2 < o.1
def RetOk (i pc : Nat) (r : Option Value) : Prop :=
  (∃ (v : Int32) (ty : FieldType), r = some (.int v) ∧ mRet i = some ty ∧ narrow ty (.int v) = .int v ∧ decode (mCode i) pc = .ok (.ireturn, 1)) ∨
  (∃ v : Int64, r = some (.long v) ∧ mRet i = some .long ∧ decode (mCode i) pc = .ok (.lreturn, 1)) ∨
  (r = none ∧ mRet i = none ∧ decode (mCode i) pc = .ok (.return_, 1)) ∨
  (∃ (v : Value) (rt : FieldType), r = some v ∧ (v = .null ∨ ∃ k, v = .ref k) ∧ mRet i = some rt ∧ ((∃ n, rt = .object n) ∨ ∃ t, rt = .array t) ∧ decode (mCode i) pc = .ok (.areturn, 1))
def Cap (R : Room) (s : State) (o : Nat × Nat) (cells slots : Nat) (w : MW) (cap scap : Nat) : Prop := o.1 + w.length = s.heap.size + cells ∧ w.length ≤ cap ∧ wsz w ≤ scap ∧ cells + (cap - w.length) ≤ R.cells ∧ slots + (scap - wsz w) ≤ R.slots
def Kont (i : Nat) (p : Program) (l : Launch) (e : Env) (R : Room) (s : State) (m : MethodId) (args : Array Value) (below : List Frame) (meth : Method) (c : Code) (cells slots : Nat) (Q : State → Prop) (D : va_G) (aC : Nat → ClassId) (o : Nat × Nat) (w : MW) (Φ : Option Value → MW → Prop) : Prop :=
  ∀ (r : Option Value) (w' : MW) (pc' : Nat) (H' : Heap) (locs' : List Loc) (ls' : Array Slot) (cells' slots' : Nat), Φ r w' → RetOk i pc' r → Rel D aC o w' H' → va_S (Up o) s.heap H' locs' → cells' + w.length = cells + w'.length → slots' + wsz w = slots + wsz w' →
    W p l e R s m args below meth c H' locs' cells' slots' Q (F0 m pc' ls' (r.toList.map (tr o)))
/-- from this point of method i, over the world w, M comes to a return with Φ -/
def Ok (sc : Option (Nat × (Nat → Int32))) (i pc : Nat) (lv : List (Option Value)) (st : List Value) (w : MW) (cap scap : Nat) (Φ : Option Value → MW → Prop) : Prop :=
  ∀ (p : Program) (l : Launch) (e : Env) (R : Room) (s : State) (m : MethodId) (args : Array Value) (below : List Frame) (meth : Method) (c : Code) (H : Heap) (locs : List Loc) (cells slots : Nat) (Q : State → Prop) (D : va_G) (aC : Nat → ClassId) (o : Nat × Nat) (ls : Array Slot),
    Ctx i p R s m args meth c D aC → Sc sc o s → o.1 ≤ s.heap.size → Rel D aC o w H → va_S (Up o) s.heap H locs → lv_has ls (mMax i) (lvA o lv) → Cap R s o cells slots w cap scap → Kont i p l e R s m args below meth c cells slots Q D aC o w Φ →
    W p l e R s m args below meth c H locs cells slots Q (F0 m pc ls (st.map (tr o)))
theorem Ok.weaken {sc : Option (Nat × (Nat → Int32))} {i pc : Nat} {lv : List (Option Value)} {st : List Value} {w : MW} {cap scap : Nat} {Φ Ψ : Option Value → MW → Prop} (h : Ok sc i pc lv st w cap scap Φ) (hi : ∀ r w', Φ r w' → Ψ r w') : Ok sc i pc lv st w cap scap Ψ :=
  fun p l e R s m args below meth c H locs cells slots Q D aC o ls C hsc ho hR hS hl hc hk => h p l e R s m args below meth c H locs cells slots Q D aC o ls C hsc ho hR hS hl hc (fun r w' pc' H' locs' ls' cells' slots' hΦ => hk r w' pc' H' locs' ls' cells' slots' (hi r w' hΦ))
def PcM (D : va_G) (aC : Nat → ClassId) (o : Nat × Nat) (w : MW) (vs : List Value) : Array Value → State → Prop := va_Pc (vs.map (tr o)) (fun U => Rel D aC o w U.heap ∧ KU D aC U)
def QcM (D : va_G) (aC : Nat → ClassId) (o : Nat × Nat) (Φ : Option Value → MW → Prop) : Array Value → State → Outcome → State → Prop := fun _ st oc t => ∃ (r : Option Value) (w' : MW), oc = .returned (r.map (tr o)) ∧ Φ r w' ∧ Rel D aC o w' t.heap ∧ va_F (Up o) st t
theorem PcM.blind (D : va_G) (aC : Nat → ClassId) (o : Nat × Nat) (w : MW) (vs : List Value) : FrameBlind (PcM D aC o w vs) := fun a U g mk q => ⟨q.1, q.2.1, KU.calling g mk a q.2.2⟩
abbrev cdW (i : Nat) : List Cond := Cond.code (mName i) (mCode i) (mMax i) (mRet i) :: GW
theorem met_ofW {l : Launch} {y : MethodName} {zs zs' : List Cond} {rm : Room} {Pc : Array Value → State → Prop} {Qc : Array Value → State → Outcome → State → Prop} {mc ms : Nat} {free : Addr → Prop} {cc : ByteArray} {maxL : Nat} {ret : Option FieldType}
    (hy : plainFor y = true) (hw : zs = Cond.code y cc maxL ret :: zs')
    (body : ∀ p e s m args below meth c s₁, BodyLoose p l y (headSpec zs rm) cc maxL ret e s m args below meth c s₁ → c.maxLocals = maxL → Pc args s →
      W p l e (headSpec zs rm).room s m args below meth c s.heap [] 0 0 (MQ below Qc args s mc ms free) (entryFrame m args maxL)) : Met l y zs rm Pc Qc mc ms free := by
  refine MetFree.of_bodySF (code := cc) (maxLocals := maxL) (ret := ret) hy ?_ ?_
  · intro args s m h hn
    have hc := Cond.code_spec hn (atoms_spec (ws := zs) h _ (by rw [hw]; exact List.mem_cons_self))
    obtain ⟨meth, c, h1, h2, h3, h4, h5, h6, -⟩ := hc
    exact ⟨meth, c, h1, h2, h3, h4, h5, h6⟩
  · intro p e s m args below meth c s₁ B hml hP _
    have hh0 : s₁.heap = s.heap := by rw [B.state]; rfl
    obtain ⟨t, a1, oc, b1, b2, b3⟩ := body p e s m args below meth c s₁ B hml hP s₁ hh0 (Stand.of_body B)
    exact ⟨t, oc, a1, b1, b2, b3⟩
theorem met_of {l : Launch} {i : Nat} {vs : List Value} {w : MW} {dc ds : Nat} {Φ : Option Value → MW → Prop} (hpl : plainFor (mName i) = true) (hlen : (argL vs).length ≤ mMax i) (h : Ok none i 0 (argL vs) [] w (w.length + dc) (wsz w + ds) Φ) (hΦ : ∀ r w', Φ r w' → w'.length = w.length + dc ∧ wsz w' = wsz w + ds) (D : va_G) (aC : Nat → ClassId) (o : Nat × Nat) :
    Met l (mName i) (cdW i) ({ frames := mFr i, cells := dc, slots := ds, locals := mLo i }) (PcM D aC o w vs) (QcM D aC o Φ) dc ds (Up o) := by
  refine met_ofW (cc := mCode i) (maxL := mMax i) (ret := mRet i) hpl rfl ?_
  intro p e s m args below meth c s₁ B hml hv
  obtain ⟨rfl, hR, hK⟩ := hv
  have hlocks : meth.locks = false := B.notSynchronized
  have hts := atoms_spec (ws := cdW i) B.pre
  have hl := lv_entry (vs.map (tr o)) (n := mMax i) (by rw [argL_len]; exact hlen)
  rw [lg_entry_eq]
  generalize (lg_sl (vs.map (tr o)) ++ List.replicate (mMax i - (lg_sl (vs.map (tr o))).length) Slot.unset).toArray = ls at hl ⊢
  have hl2 : lv_has ls (mMax i) (lvA o (argL vs)) := by
    refine ⟨hl.1, hl.2.1, fun q hq => ?_⟩
    obtain ⟨a, u⟩ := q
    obtain ⟨v0, h1, rfl⟩ := lvA_mem.mp hq
    have h2 := argL_mem o vs 0 a v0 h1
    rw [Nat.zero_add] at h2
    exact hl.2.2 _ h2
  refine h p l e _ s m _ below meth c s.heap [] 0 0 _ D aC o ls ⟨B.exec, B.bytes, hml, B.returns, findClass_of_methodNamed B.named, fun w hw => hts w (List.mem_cons_of_mem _ hw), hlocks, (name_of_methodNamed B.named B.method).1, hK, Nat.le_refl _, Nat.le_refl _⟩ trivial (by rw [hR.1]; omega) hR va_S.rf hl2 ⟨by rw [hR.1]; rfl, by omega, by omega, ?_, ?_⟩ ?_
  · show 0 + _ ≤ dc
    omega
  · show 0 + _ ≤ ds
    omega
  · intro r w' pc' H' locs' ls' cells' slots' hP hret hR' hS' hc1 hc2
    obtain ⟨e1, e2⟩ := hΦ r w' hP
    have hcc : cells' = dc := by omega
    have hss : slots' = ds := by omega
    subst hcc; subst hss
    have hq : ∀ t : State, t.heap = H' → s.WarmedH t.vm → QcM D aC o Φ (vs.map (tr o)).toArray s (.returned (r.map (tr o))) t := fun t ht _ => ⟨r, w', rfl, hP, by rw [ht]; exact hR', hS'.F ht⟩
    rcases hret with ⟨v, ty, rfl, hty, hn, hd⟩ | ⟨v, rfl, hty, hd⟩ | ⟨rfl, hty, hd⟩ | ⟨v, rt, rfl, hv, hty, hrt, hd⟩
    · exact W.zret B.exec B.bytes (B.returns.trans hty) hn hq hS'.2.2 hd
    · exact W.lret B.exec B.bytes (B.returns.trans hty) hq hS'.2.2 hd
    · exact W.vret B.exec B.bytes (B.returns.trans hty) hq hS'.2.2 hd
    · refine W.aret B.exec B.bytes (B.returns.trans hty) hrt ?_ hq hS'.2.2 hd
      rcases hv with rfl | ⟨k, rfl⟩
      · exact Or.inl rfl
      · exact Or.inr ⟨_, rfl⟩
theorem m_call {p : Program} {l : Launch} {e : Env} {R : Room} {s : State} {m : MethodId} {args : Array Value} {below : List Frame} {meth : Method} {c : Code} {H : Heap} {locs : List Loc} {cells slots mc ms : Nat} {Q : State → Prop} {pc : Nat} {ls : Array Slot} {st0 rest : List Value} {Qa : State → Outcome → State → Prop} {free : Addr → Prop} {A : Nat → Prop}
    (hr : va_Run p l e R s m args below meth c H locs cells slots mc ms (F0 m pc ls st0) rest Qa free) (hS : va_S A s.heap H locs) (hf : ∀ q, free q → A q)
    (kk : ∀ (v : Option Value) (st₀ t : State) (H1 : Heap) (locs1 : List Loc), st₀.heap = H → t.heap = H1 → Qa st₀ (.returned v) t → (∀ x ∈ locs1, A x.base) → W p l e R s m args below meth c H1 locs1 (cells + mc) (slots + ms) Q (F0 m (pc + 3) ls (v.toList ++ rest))) : W p l e R s m args below meth c H locs cells slots Q (F0 m pc ls st0) := by
  intro T hT X
  obtain ⟨v, st₀, t, T', L, h0, X', hL, e1, e2, hq, st⟩ := hr T hT X
  obtain ⟨t2, a1, b1⟩ := kk v st₀ t T'.heap (locs ++ L) h0 e1.symm hq (fun x hx => by
    rcases List.mem_append.mp hx with h | h
    · exact hS.2.2 x h
    · exact hf _ (hL x h)) T' rfl X'
  exact ⟨t2, st t2 a1, b1⟩
theorem w_bd {p : Program} {l : Launch} {e : Env} {R : Room} {s : State} {m : MethodId} {args : Array Value} {below : List Frame} {meth : Method} {c : Code} {H : Heap} {locs : List Loc} {cells slots : Nat} {Q : State → Prop} {g : JFrame} (h : H.size ≤ s.heap.size + cells → W p l e R s m args below meth c H locs cells slots Q g) : W p l e R s m args below meth c H locs cells slots Q g := fun T hT X => h (by rw [← hT]; exact X.heapSize) T hT X
theorem va_S_trans {A : Nat → Prop} {H0 H H1 : Heap} {locs locs1 : List Loc} (h : va_S A H0 H locs) (h1 : va_S A H H1 locs1) : va_S A H0 H1 locs1 := ⟨Nat.le_trans h.1 h1.1, fun q hq ha => (h1.2.1 q (Nat.lt_of_lt_of_le hq h.1) ha).trans (h.2.1 q hq ha), h1.2.2⟩
theorem va_S_self {A : Nat → Prop} {H0 H : Heap} {locs : List Loc} (h : va_S A H0 H locs) : va_S A H H locs := ⟨Nat.le_refl _, fun _ _ _ => rfl, h.2.2⟩
