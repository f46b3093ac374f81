/-! new cells, and calls -/
section MAKE
variable {sc : Option (Nat × (Nat → Int32))} {i pc nx a b : Nat} {ws : List Nat} {cv : Value} {lv : List (Option Value)} {st : List Value} {w : MW} {cap scap : Nat} {Φ : Option Value → MW → Prop}
theorem ok_app {c1 : MCell} {q : Nat} (h : Ok sc i nx lv (.ref w.length :: st) (w ++ [c1]) cap scap Φ) {p : Program} {l : Launch} {e : Env} {R : Room} {s : State} {m : MethodId} {args : Array Value} {below : List Frame} {meth : Method} {c : Code} {H H1 : Heap} {locs locs1 : List Loc} {cells slots : Nat} {Q : State → Prop} {D : va_G} {aC : Nat → ClassId} {o : Nat × Nat} {ls : Array Slot}
    (C : Ctx i p R s m args meth c D aC) (hsc : Sc sc o s) (ho : o.1 ≤ s.heap.size) (hR : Rel D aC o w H) (hS : va_S (Up o) s.heap H locs) (hl : lv_has ls (mMax i) (lvA o lv)) (hc : Cap R s o cells slots w cap scap) (hk : Kont i p l e R s m args below meth c cells slots Q D aC o w Φ)
    (hP1 : va_P D CL (trW o aC w ++ [(q, trC o aC c1)]) H1) (hD1 : va_D (Up o) (trW o aC w ++ [(q, trC o aC c1)])) (hS1 : va_S (Up o) H H1 locs1) (h999 : w.length < 999) (hcap : w.length + 1 ≤ cap) (hsl : wsz w + c1.2.2.length ≤ scap) :
    W p l e R s m args below meth c H1 locs1 (cells + 1) (slots + c1.2.2.length) Q (F0 m nx ls (.ref q :: st.map (tr o))) := by
  refine w_bd (fun hsz => ?_)
  have hlen : (trW o aC w).length = w.length := by simp [trW]
  have hlast : (trW o aC w ++ [(q, trC o aC c1)])[w.length]? = some (q, trC o aC c1) := by
    rw [← hlen]
    simp
  have q1 : q < H1.size := (hP1 _ _ hlast).lt
  have q2 : o.1 ≤ q := hD1.2 _ _ hlast
  have a2 := hR.1
  have a3 := hc.1
  have q3 : q = o.1 + w.length := by
    rcases Nat.lt_or_ge q (o.1 + w.length) with h1 | h1
    · exfalso
      have hlt : q - o.1 < w.length := by omega
      have h2 : (trW o aC w ++ [(q, trC o aC c1)])[q - o.1]? = some (o.1 + (q - o.1), trC o aC (w[q - o.1])) := by
        rw [List.getElem?_append_left (by rw [hlen]; exact hlt)]
        exact trW_get (List.getElem?_eq_getElem hlt)
      have h3 := hD1.1 _ _ _ _ h2 hlast (by show o.1 + (q - o.1) = q; omega)
      omega
    · omega
  have z2 : (w ++ [c1]).length = w.length + 1 := by simp
  have z1 : wsz (w ++ [c1]) = wsz w + c1.2.2.length := wsz_app w c1
  have htr : tr o (.ref w.length) = .ref q := by
    have : w.length ≠ 1000 := by omega
    simp [tr, this, q3]
  have hgoal := h p l e R s m args below meth c H1 locs1 (cells + 1) (slots + c1.2.2.length) Q D aC o ls C hsc ho ⟨by rw [z2]; omega, by rw [z2]; omega, by rw [trW_app, ← q3]; exact hP1⟩ (va_S_trans hS hS1) hl ?_ ?_
  · rw [← htr]
    exact hgoal
  · obtain ⟨b1, b2, b3, b4, b5⟩ := hc
    refine ⟨?_, ?_, ?_, ?_, ?_⟩ <;> (try rw [z1]) <;> (try rw [z2]) <;> omega
  · intro r w' pc' H' locs' ls' cells' slots' p1 p2 p3 p4 p5 p6
    rw [z2] at p5
    rw [z1] at p6
    exact hk r w' pc' H' locs' ls' cells' slots' p1 p2 p3 p4 (by omega) (by omega)
def dfl (a : Nat) : List Value := match CL[a]? with
  | some q => (List.range q.2.2).map (fun k => defaultValue (tyOf a k))
  | none => []
theorem dfl_eq {q : vw_C} (h : CL[a]? = some q) : dfl a = (List.range q.2.2).map (fun k => defaultValue (tyOf a k)) := by
  unfold dfl
  rw [h]
theorem tr_dfl (o : Nat × Nat) (t : FieldType) : tr o (defaultValue t) = defaultValue t := by cases t <;> rfl
theorem ok_mk {idx w1 w2 w3 : Nat} (h : okAt i pc (.new idx) a b [w1, w2, w3] cv = true) : ∃ q, CL[a]? = some q ∧ Cond.classLink (mName i).cls idx q.1 ∈ GW ∧ Cond.instantiable q.1 q.2.2 ∈ GW ∧ Cond.initialized q.1 ∈ GW := by
  have h2 : (match CL[a]? with
    | some C => wk w1 (.classLink (mName i).cls idx C.1) && wk w2 (.instantiable C.1 C.2.2) && wk w3 (.initialized C.1)
    | none => false) = true := h
  generalize CL[a]? = z at h2 ⊢
  cases z with
  | none => cases h2
  | some q =>
    simp only [Bool.and_eq_true] at h2
    exact ⟨q, rfl, wk_mem h2.1.1, wk_mem h2.1.2, wk_mem h2.2⟩
theorem r_new {idx w1 w2 w3 : Nat} (hf : fetch i pc = some (.new idx, nx, a, b, [w1, w2, w3], cv)) (h999 : w.length < 999) (hcap : w.length + 1 ≤ cap) (hsl : wsz w + (dfl a).length ≤ scap) (h : Ok sc i nx lv (.ref w.length :: st) (w ++ [(false, a, dfl a)]) cap scap Φ) : Ok sc i pc lv st w cap scap Φ := by
  intro p l e R s m args below meth c H locs cells slots Q D aC o ls C hsc ho hR hS hl hc hk
  obtain ⟨hd, rfl, hg⟩ := ck_dec hf rfl
  obtain ⟨⟨Cn, T, N⟩, hq, g1, g2, g3⟩ := ok_mk hg
  have hN : (dfl a).length = N := by rw [dfl_eq hq]; simp
  have hmap : (dfl a).map (tr o) = dfl a := by
    rw [dfl_eq hq, List.map_map]
    apply List.map_congr_left
    intro k _
    exact tr_dfl o _
  have b1 := hc
  obtain ⟨b1, b2, b3, b4, b5⟩ := b1
  refine va_new (ci := a) (fs := (dfl a).map (tr o)) C.1 C.2.1 C.2.2.2.2.2.1 (CL_in hq) (tyOf a) (CL_ty hq) C.2.2.2.2.1 (C.2.2.2.2.2.1 _ g1) (C.2.2.2.2.2.1 _ g2) (C.2.2.2.2.2.1 _ g3) C.2.2.2.2.2.2.2.2.1.1 hR.2.2 (trW_D o aC w) (va_S_self hS) (fun q hq => by show o.1 ≤ q; have := hR.1; omega) hq ?_ (by omega) (by show slots + N ≤ _; omega) hd (fun q H1 hP1 hD1 hS1 => ?_)
  · intro j hj
    have hj' : j < N := hj
    rw [hmap]
    unfold vp_V
    rw [dfl_eq hq, List.getD_eq_getElem?_getD, List.getElem?_map, List.getElem?_range hj]
    rfl
  · have := ok_app (c1 := (false, a, dfl a)) h C hsc ho hR hS hl hc hk hP1 hD1 hS1 h999 hcap hsl
    rw [← hN]
    exact this
theorem ok_na {t : ArrayType} {w1 : Nat} (h : okAt i pc (.newarray t) a b [w1] cv = true) : (a = 0 ∧ t = .int ∧ Cond.arrayClass .int ∈ GW) ∨ (a = 1 ∧ t = .boolean ∧ Cond.arrayClass .boolean ∈ GW) := by
  have h2 : ((decide (a = 0 ∧ t = .int) && wk w1 (.arrayClass .int)) || (decide (a = 1 ∧ t = .boolean) && wk w1 (.arrayClass .boolean))) = true := h
  simp only [Bool.and_eq_true, Bool.or_eq_true, decide_eq_true_eq] at h2
  rcases h2 with ⟨⟨q0, q1⟩, q2⟩ | ⟨⟨q0, q1⟩, q2⟩
  · exact Or.inl ⟨q0, q1, wk_mem q2⟩
  · exact Or.inr ⟨q0, q1, wk_mem q2⟩
theorem trI_rep (N : Nat) : (fun j : Nat => trI (List.replicate N (Value.int 0))[j]?) = (fun _ => (0 : Int32)) := by
  funext j
  rw [List.getElem?_replicate]
  split <;> rfl
theorem arr_uniq {D : va_G} {aC : Nat → ClassId} {s : State} {cA : ClassId} {tys : List (ClassId × FieldType)} {t : Nat} {ty : FieldType} (hK : va_K D CL (TYS aC) s) (ht : (TYS aC)[t]? = some (aC t, ty)) (hty : ty = .int ∨ ty = .boolean) (h1 : va_K D CL (tys ++ [(cA, ty)]) s) : cA = aC t := by
  have e1 := (h1.2 tys.length (cA, ty) (by simp)).2
  have e2 := (hK.2 t _ ht).2
  rcases hty with rfl | rfl
  · have e1' : s.vm.findClass ("[" ++ FieldType.int.toString) = some cA := e1
    have e2' : s.vm.findClass ("[" ++ FieldType.int.toString) = some (aC t) := e2
    exact Option.some.inj (e1'.symm.trans e2')
  · have e1' : s.vm.findClass ("[" ++ FieldType.boolean.toString) = some cA := e1
    have e2' : s.vm.findClass ("[" ++ FieldType.boolean.toString) = some (aC t) := e2
    exact Option.some.inj (e1'.symm.trans e2')
theorem r_newa {t : ArrayType} {w1 N : Nat} {x : Int32} (hf : fetch i pc = some (.newarray t, nx, a, b, [w1], cv)) (hx0 : ¬ x < 0) (hx : x.toNatClampNeg = N) (hN : N ≤ 1000) (h999 : w.length < 999) (hcap : w.length + 1 ≤ cap) (hsl : wsz w + N ≤ scap) (h : Ok sc i nx lv (.ref w.length :: st) (w ++ [(true, a, List.replicate N (.int 0))]) cap scap Φ) : Ok sc i pc lv (.int x :: st) w cap scap Φ := by
  intro p l e R s m args below meth c H locs cells slots Q D aC o ls C hsc ho hR hS hl hc hk
  obtain ⟨hd, rfl, hg⟩ := ck_dec hf rfl
  have b1 := hc
  obtain ⟨b1, b2, b3, b4, b5⟩ := b1
  have hA : ∀ q, H.size ≤ q → Up o q := fun q hq => by show o.1 ≤ q; have := hR.1; omega
  rcases ok_na hg with ⟨rfl, rfl, g1⟩ | ⟨rfl, rfl, g1⟩
  · refine va_newa (atype := .int) (ty := .int) (N' := N) (a0 := (N, .inl (fun _ => 0))) C.1 C.2.1 (C.2.2.2.2.2.1 _ g1) rfl C.2.2.2.2.2.2.2.2.1.1 hR.2.2 (trW_D o aC w) (va_S_self hS) hA (fun _ => rfl) hx0 hx (by show N * 4 ≤ _; omega) (by omega) (by omega) hd (fun q cA H1 hK1 hP1 hD1 hS1 => ?_)
    have e1 := arr_uniq (t := 0) C.2.2.2.2.2.2.2.2.1.1 rfl (Or.inl rfl) hK1
    subst e1
    have := ok_app (c1 := (true, 0, List.replicate N (.int 0))) (q := q) (H1 := H1) h C hsc ho hR hS hl hc hk (by show va_P D CL (trW o aC w ++ [(q, .inl (aC 0, (List.replicate N (Value.int 0)).length, .inl (fun j => trI (List.replicate N (Value.int 0))[j]?)))]) H1; rw [trI_rep, List.length_replicate]; exact hP1) (by show va_D (Up o) (trW o aC w ++ [(q, .inl (aC 0, (List.replicate N (Value.int 0)).length, .inl (fun j => trI (List.replicate N (Value.int 0))[j]?)))]); rw [trI_rep, List.length_replicate]; exact hD1) hS1 h999 hcap (by simpa using hsl)
    rw [show (List.replicate N (Value.int 0)).length = N from List.length_replicate] at this
    exact this
  · refine va_newa (atype := .boolean) (ty := .boolean) (N' := N) (a0 := (N, .inl (fun _ => 0))) C.1 C.2.1 (C.2.2.2.2.2.1 _ g1) rfl C.2.2.2.2.2.2.2.2.1.1 hR.2.2 (trW_D o aC w) (va_S_self hS) hA (fun _ => rfl) hx0 hx (by show N * 1 ≤ _; omega) (by omega) (by omega) hd (fun q cA H1 hK1 hP1 hD1 hS1 => ?_)
    have e1 := arr_uniq (t := 1) C.2.2.2.2.2.2.2.2.1.1 rfl (Or.inr rfl) hK1
    subst e1
    have := ok_app (c1 := (true, 1, List.replicate N (.int 0))) (q := q) (H1 := H1) h C hsc ho hR hS hl hc hk (by show va_P D CL (trW o aC w ++ [(q, .inl (aC 1, (List.replicate N (Value.int 0)).length, .inl (fun j => trI (List.replicate N (Value.int 0))[j]?)))]) H1; rw [trI_rep, List.length_replicate]; exact hP1) (by show va_D (Up o) (trW o aC w ++ [(q, .inl (aC 1, (List.replicate N (Value.int 0)).length, .inl (fun j => trI (List.replicate N (Value.int 0))[j]?)))]); rw [trI_rep, List.length_replicate]; exact hD1) hS1 h999 hcap (by simpa using hsl)
    rw [show (List.replicate N (Value.int 0)).length = N from List.length_replicate] at this
    exact this
theorem trO_rep (o : Nat × Nat) (N : Nat) : (fun j : Nat => trO o (List.replicate N Value.null)[j]?) = (fun _ => (none : Option Nat)) := by
  funext j
  rw [List.getElem?_replicate]
  split <;> rfl
theorem r_anew {idx w1 N : Nat} {x : Int32} (hf : fetch i pc = some (.anewarray idx, nx, a, b, [w1], cv)) (hx0 : ¬ x < 0) (hx : x.toNatClampNeg = N) (hN : N ≤ 1000) (h999 : w.length < 999) (hcap : w.length + 1 ≤ cap) (hsl : wsz w + N ≤ scap) (h : Ok sc i nx lv (.ref w.length :: st) (w ++ [(true, 2, List.replicate N .null)]) cap scap Φ) : Ok sc i pc lv (.int x :: st) w cap scap Φ := by
  intro p l e R s m args below meth c H locs cells slots Q D aC o ls C hsc ho hR hS hl hc hk
  obtain ⟨hd, rfl, hg⟩ := ck_dec hf rfl
  have hg2 : (decide (a = 5) && wk w1 (.classLink (mName i).cls idx RX5)) = true := hg
  simp only [Bool.and_eq_true] at hg2
  have g1 := wk_mem hg2.2
  have b1 := hc
  obtain ⟨b1, b2, b3, b4, b5⟩ := b1
  have hA : ∀ q, H.size ≤ q → Up o q := fun q hq => by show o.1 ≤ q; have := hR.1; omega
  refine va_newq (N' := N) C.1 C.2.1 C.2.2.2.2.1 (C.2.2.2.2.2.1 _ g1) C.2.2.2.2.2.2.2.2.1.2.1 C.2.2.2.2.2.2.2.2.1.1 hR.2.2 (trW_D o aC w) (va_S_self hS) hA hx0 hx (by omega) (by omega) (by omega) hd (fun q cA H1 hK1 hP1 hD1 hS1 => ?_)
  have e1 : cA = aC 2 := by
    obtain ⟨k1, m1, -, -, -, f1⟩ := (hK1.2 (TYS aC).length (cA, .object RX5) (by simp)).2
    obtain ⟨k2, m2, -, -, -, f2⟩ := (C.2.2.2.2.2.2.2.2.1.1.2 2 (aC 2, .object RX5) rfl).2
    exact Option.some.inj (f1.symm.trans f2)
  subst e1
  have := ok_app (c1 := (true, 2, List.replicate N .null)) (q := q) (H1 := H1) h C hsc ho hR hS hl hc hk (by show va_P D CL (trW o aC w ++ [(q, .inl (aC 2, (List.replicate N Value.null).length, .inr (.inr (.inr (.inr (fun j => trO o (List.replicate N Value.null)[j]?))))))]) H1; rw [trO_rep, List.length_replicate]; exact hP1) (by show va_D (Up o) (trW o aC w ++ [(q, .inl (aC 2, (List.replicate N Value.null).length, .inr (.inr (.inr (.inr (fun j => trO o (List.replicate N Value.null)[j]?))))))]); rw [trO_rep, List.length_replicate]; exact hD1) hS1 h999 hcap (by simpa using hsl)
  rw [show (List.replicate N Value.null).length = N from List.length_replicate] at this
  exact this
end MAKE
section CALLS
variable {sc : Option (Nat × (Nat → Int32))} {i pc nx a b : Nat} {ws : List Nat} {cv : Value} {lv : List (Option Value)} {st : List Value} {w : MW} {cap scap : Nat} {Φ Ψ : Option Value → MW → Prop}
theorem gw_in2 (hj : a < 154) : GoodIn GW (cdW a) := by
  intro z hz
  rcases List.mem_cons.mp hz with rfl | h
  · exact ⟨code_mem a hj, Or.inl rfl⟩
  · exact ⟨h, gw_good z h⟩
def JDKS : List Nat := [38, 56, 145, 146]
theorem cls_all : ∀ a, a < 154 → (mName a).cls ∈ [RX0, RX1, RX2, RX3, RX4, RX5, RX6, RX7, RX8] ∨ a ∈ JDKS := by decide +kernel
theorem pl_all : ∀ z ∈ [RX0, RX1, RX2, RX3, RX4, RX5, RX6, RX7, RX8], plainName z = true := by
  intro z hz
  simp only [List.mem_cons, List.not_mem_nil, or_false] at hz
  rcases hz with rfl | rfl | rfl | rfl | rfl | rfl | rfl | rfl | rfl <;> decide
theorem pl_jdk : ∀ a ∈ JDKS, plainFor (mName a) = true := by decide +kernel
theorem plain_all : ∀ a, a < 154 → plainFor (mName a) = true := fun a ha => (cls_all a ha).elim (fun h => plainFor_of_name (pl_all _ h)) (pl_jdk a)
theorem okCall_of (h : okCall i a b = true) : ((mName a).cls ≠ "java/lang/invoke/MethodHandle" ∧ (mName a).cls ≠ "java/lang/invoke/VarHandle" ∧ (parseMethodDescriptor (mName a).desc).map (fun d => d.parameters.length) = some b) ∧ mFr a + 1 ≤ mFr i ∧ 8 + (mMax a + 11) + mLo a ≤ mLo i := by
  unfold okCall okName at h
  simp only [Bool.and_eq_true, decide_eq_true_eq] at h
  exact ⟨⟨h.1.1.1.1, h.1.1.1.2, h.1.1.2⟩, Nat.le_of_ble_eq_true h.1.2, Nat.le_of_ble_eq_true h.2⟩
theorem r_objI {idx w1 w2 x : Nat} (hf : fetch i pc = some (.invokespecial idx, nx, a, b, [w1, w2], .int 2)) (hrest : (st.map fun v => v.category).sum ≤ 8) (h : Ok sc i nx lv st w cap scap Φ) : Ok sc i pc lv (.ref x :: st) w cap scap Φ := by
  intro p l e R s m args below meth c H locs cells slots Q D aC o ls C hsc ho hR hS hl hc hk
  obtain ⟨hd, rfl, hg⟩ := ck_dec hf rfl
  have hg2 : ((decide (Value.int 2 = .int 2) && Nat.ble 1 (mFr i) && Nat.ble 20 (mLo i) && wk w1 (.methodLink (mName i).cls idx objY) && wk w2 (.instanceMethod objY)) || (decide (Value.int 2 = .int 1) && okCall i a b && decide ((mName a).name = "<init>") && decide (mRet a = none) && decide ((mName i).cls = RX7) && decide ((idx, mName a) ∈ NESTS) && wk w1 (.instanceMethod (mName a)) && wk w2 (.initialized (mName a).cls))) = true := hg
  rw [show decide (Value.int 2 = Value.int 1) = false from by decide] at hg2
  simp only [Bool.false_and, Bool.or_false, Bool.and_eq_true] at hg2
  obtain ⟨⟨⟨⟨-, g1⟩, g2⟩, g3⟩, g4⟩ := hg2
  have g1 := Nat.le_of_ble_eq_true g1
  have g2 := Nat.le_of_ble_eq_true g2
  have e7 := C.2.2.2.2.2.2.2.2.2.1
  have e8 := C.2.2.2.2.2.2.2.2.2.2
  have hcode : (Cond.code objY ⟨#[0xb1]⟩ 1 none) ∈ GW := List.mem_filter.mpr ⟨List.mem_of_getElem? (i := 80) (by rfl), rfl⟩
  refine W.objInit C.1 C.2.1 C.2.2.2.2.1 (C.2.2.2.2.2.1 _ (wk_mem g3)) (C.2.2.2.2.2.1 _ (wk_mem g4)) (C.2.2.2.2.2.1 _ hcode) rfl (by rw [C.2.2.1]; exact hl.1) rfl hd (by omega) ?_ (h p l e R s m args below meth c H locs cells slots Q D aC o ls C hsc ho hR hS hl hc hk)
  have e9 := rest_sum o st
  show 2 * 0 + _ + 12 ≤ _
  rw [e9]
  omega
theorem ok_call {dc ds : Nat} {st0 : List Value} {av : Array Value} (hΨ : ∀ r w', Ψ r w' → w'.length = w.length + dc ∧ wsz w' = wsz w + ds) (hcap : w.length + dc ≤ cap) (hscap : wsz w + ds ≤ scap) (h : ∀ r w', Ψ r w' → Ok sc i (pc + 3) lv (r.toList ++ st) w' cap scap Φ) {p : Program} {l : Launch} {e : Env} {R : Room} {s : State} {m : MethodId} {args : Array Value} {below : List Frame} {meth : Method} {c : Code} {H : Heap} {locs : List Loc} {cells slots : Nat} {Q : State → Prop} {D : va_G} {aC : Nat → ClassId} {o : Nat × Nat} {ls : Array Slot}
    (C : Ctx i p R s m args meth c D aC) (hsc : Sc sc o s) (ho : o.1 ≤ s.heap.size) (hR : Rel D aC o w H) (hS : va_S (Up o) s.heap H locs) (hl : lv_has ls (mMax i) (lvA o lv)) (hc : Cap R s o cells slots w cap scap) (hk : Kont i p l e R s m args below meth c cells slots Q D aC o w Φ)
    (hrun : va_Run p l e R s m args below meth c H locs cells slots dc ds (F0 m pc ls st0) (st.map (tr o)) (QcM D aC o Ψ av) (Up o)) : W p l e R s m args below meth c H locs cells slots Q (F0 m pc ls st0) := by
  refine m_call hrun hS (fun _ h => h) (fun v st₀ t H1 locs1 h0 ht hq hlo => ?_)
  obtain ⟨r, w', hv, hP, hR', hF⟩ := hq
  obtain ⟨e1, e2⟩ := hΨ r w' hP
  have hv2 : v = r.map (tr o) := by cases hv; rfl
  subst hv2
  have hst : (r.map (tr o)).toList ++ st.map (tr o) = (r.toList ++ st).map (tr o) := by cases r <;> simp
  rw [hst]
  rw [ht] at hR'
  obtain ⟨f1, f2⟩ := hF
  rw [h0, ht] at f1 f2
  obtain ⟨b1, b2, b3, b4, b5⟩ := id hc
  refine h r w' hP p l e R s m args below meth c H1 locs1 (cells + dc) (slots + ds) Q D aC o ls C hsc ho hR' ⟨Nat.le_trans hS.1 f1, fun q q1 q2 => (f2 q (Nat.lt_of_lt_of_le q1 hS.1) q2).trans (hS.2.1 q q1 q2), hlo⟩ hl ⟨by omega, by omega, by omega, by omega, by omega⟩ ?_
  intro r2 w2 pc' H' locs' ls' cells' slots' p1 p2 p3 p4 p5 p6
  exact hk r2 w2 pc' H' locs' ls' cells' slots' p1 p2 p3 p4 (by omega) (by omega)
theorem r_callV {idx w1 w2 w3 w4 k ci dc ds : Nat} {fs As : List Value} (hf : fetch i pc = some (.invokevirtual idx, nx, a, b, [w1, w2, w3, w4], cv)) (ha : a < 154) (hw : w[k]? = some (false, ci, fs)) (hci : (CL[ci]?).map (fun q => q.1) = some (mName a).cls) (hn : As.length = b) (hlen : (argL (.ref k :: As)).length ≤ mMax a) (hrest : (st.map fun v => v.category).sum ≤ 8)
    (hM : Ok none a 0 (argL (.ref k :: As)) [] w (w.length + dc) (wsz w + ds) Ψ) (hΨ : ∀ r w', Ψ r w' → w'.length = w.length + dc ∧ wsz w' = wsz w + ds) (hcap : w.length + dc ≤ cap) (hscap : wsz w + ds ≤ scap) (h : ∀ r w', Ψ r w' → Ok sc i nx lv (r.toList ++ st) w' cap scap Φ) : Ok sc i pc lv (As.reverse ++ .ref k :: st) w cap scap Φ := by
  intro p l e R s m args below meth c H locs cells slots Q D aC o ls C hsc ho hR hS hl hc hk
  obtain ⟨hd, rfl, hg⟩ := ck_dec hf rfl
  have hg2 : (okCall i a b && wk w1 (.methodLink (mName i).cls idx (mName a)) && wk w2 (.instanceMethod (mName a)) && wk w3 (.selects (mName a).cls (mName a) (mName a)) && wk w4 (.initialized (mName a).cls)) = true := hg
  simp only [Bool.and_eq_true] at hg2
  obtain ⟨⟨⟨⟨g0, g1⟩, g2⟩, g3⟩, g4⟩ := hg2
  obtain ⟨n1, n2, n3⟩ := okCall_of g0
  have e7 := C.2.2.2.2.2.2.2.2.2.1
  have e8 := C.2.2.2.2.2.2.2.2.2.2
  have hMet := met_of (l := l) (plain_all a ha) hlen hM hΨ D aC o
  obtain ⟨q, hq, hqc⟩ := Option.map_eq_some_iff.mp hci
  have hst0 : (As.reverse ++ .ref k :: st).map (tr o) = (As.map (tr o)).reverse ++ .ref (o.1 + k) :: st.map (tr o) := by
    rw [List.map_append, List.map_cons, tr_ref hR.2.1 hw, List.map_reverse]
  rw [hst0]
  refine ok_call hΨ hcap hscap h C hsc ho hR hS hl hc hk (va_runV (C := (mName a).cls) (As := As.map (tr o)) (rest := st.map (tr o)) ⟨C.1, C.2.1, C.2.2.1, C.2.2.2.2.1, C.2.2.2.2.2.1⟩ hMet ⟨callB_of b C.2.2.2.2.2.1 (gw_in2 ha) rfl rfl rfl (C.2.2.2.2.2.1 _ (wk_mem g4)) (C.2.2.2.2.2.1 _ (wk_mem g1)) n1 ⟨by show mFr a + 1 ≤ _; omega, by show 8 + (mMax a + 11) + mLo a ≤ _; omega⟩, C.2.2.2.2.2.1 _ (wk_mem g2), C.2.2.2.2.2.1 _ (wk_mem g3)⟩ ⟨PcM.blind D aC o w _, ?_, fun U hU hW => ⟨?_, by rw [hU]; exact hR, KU.warm hW C.2.2.2.2.2.2.2.2.1⟩⟩ rfl (by rw [List.length_map]; exact hn) hl.1 rfl (lv_room (by rw [rest_sum]; exact hrest)) hd ⟨by obtain ⟨b1, b2, b3, b4, b5⟩ := hc; omega, by obtain ⟨b1, b2, b3, b4, b5⟩ := hc; omega⟩)
  · obtain ⟨cell, c1, c2, c3⟩ := va_recv C.2.2.2.2.2.2.2.2.1.1 hR.2.2 hq (trW_get hw)
    exact ⟨cell, c1, c2, by rw [← hqc]; exact c3⟩
  · rw [List.map_cons, tr_ref hR.2.1 hw]
theorem r_callS {idx w1 w2 w3 dc ds : Nat} {As : List Value} (hf : fetch i pc = some (.invokestatic idx, nx, a, b, [w1, w2, w3], cv)) (ha : a < 154) (hn : As.length = b) (hlen : (argL As).length ≤ mMax a) (hrest : (st.map fun v => v.category).sum ≤ 8)
    (hM : Ok none a 0 (argL As) [] w (w.length + dc) (wsz w + ds) Ψ) (hΨ : ∀ r w', Ψ r w' → w'.length = w.length + dc ∧ wsz w' = wsz w + ds) (hcap : w.length + dc ≤ cap) (hscap : wsz w + ds ≤ scap) (h : ∀ r w', Ψ r w' → Ok sc i nx lv (r.toList ++ st) w' cap scap Φ) : Ok sc i pc lv (As.reverse ++ st) w cap scap Φ := by
  intro p l e R s m args below meth c H locs cells slots Q D aC o ls C hsc ho hR hS hl hc hk
  obtain ⟨hd, rfl, hg⟩ := ck_dec hf rfl
  have hg2 : (okCall i a b && wk w1 (.methodLink (mName i).cls idx (mName a)) && wk w2 (.static (mName a)) && wk w3 (.initialized (mName a).cls)) = true := hg
  simp only [Bool.and_eq_true] at hg2
  obtain ⟨⟨⟨g0, g1⟩, g2⟩, g3⟩ := hg2
  obtain ⟨n1, n2, n3⟩ := okCall_of g0
  have e7 := C.2.2.2.2.2.2.2.2.2.1
  have e8 := C.2.2.2.2.2.2.2.2.2.2
  have hMet := met_of (l := l) (plain_all a ha) hlen hM hΨ D aC o
  have hst0 : (As.reverse ++ st).map (tr o) = (As.map (tr o)).reverse ++ st.map (tr o) := by
    rw [List.map_append, List.map_reverse]
  rw [hst0]
  exact ok_call hΨ hcap hscap h C hsc ho hR hS hl hc hk (va_runS (As := As.map (tr o)) (rest := st.map (tr o)) ⟨C.1, C.2.1, C.2.2.1, C.2.2.2.2.1, C.2.2.2.2.2.1⟩ hMet ⟨callB_of b C.2.2.2.2.2.1 (gw_in2 ha) rfl rfl rfl (C.2.2.2.2.2.1 _ (wk_mem g3)) (C.2.2.2.2.2.1 _ (wk_mem g1)) n1 ⟨by show mFr a + 1 ≤ _; omega, by show 8 + (mMax a + 11) + mLo a ≤ _; omega⟩, C.2.2.2.2.2.1 _ (wk_mem g2)⟩ ⟨PcM.blind D aC o w _, fun U hU hW => ⟨rfl, by rw [hU]; exact hR, KU.warm hW C.2.2.2.2.2.2.2.2.1⟩⟩ rfl (by rw [List.length_map]; exact hn) hl.1 rfl (lv_room (by rw [rest_sum]; exact hrest)) hd ⟨by obtain ⟨b1, b2, b3, b4, b5⟩ := hc; omega, by obtain ⟨b1, b2, b3, b4, b5⟩ := hc; omega⟩)
theorem r_callI {idx w1 w2 w3 k dc ds : Nat} {c0 : MCell} {As : List Value} (hf : fetch i pc = some (.invokespecial idx, nx, a, b, [w1, w2, w3], cv)) (ha : a < 154) (hw : w[k]? = some c0) (hn : As.length = b) (hlen : (argL (.ref k :: As)).length ≤ mMax a) (hrest : (st.map fun v => v.category).sum ≤ 8)
    (hM : Ok none a 0 (argL (.ref k :: As)) [] w (w.length + dc) (wsz w + ds) Ψ) (hΨ : ∀ r w', Ψ r w' → w'.length = w.length + dc ∧ wsz w' = wsz w + ds) (hcap : w.length + dc ≤ cap) (hscap : wsz w + ds ≤ scap) (h : ∀ r w', Ψ r w' → Ok sc i nx lv (r.toList ++ st) w' cap scap Φ) : Ok sc i pc lv (As.reverse ++ .ref k :: st) w cap scap Φ := by
  intro p l e R s m args below meth c H locs cells slots Q D aC o ls C hsc ho hR hS hl hc hk
  obtain ⟨hd, rfl, hg⟩ := ck_dec hf rfl
  have hg2 : (decide (cv = .null) && okCall i a b && decide ((mName a).name = "<init>") && decide (mRet a = none) && wk w1 (.methodLink (mName i).cls idx (mName a)) && wk w2 (.instanceMethod (mName a)) && wk w3 (.initialized (mName a).cls)) = true := hg
  simp only [Bool.and_eq_true, decide_eq_true_eq] at hg2
  obtain ⟨⟨⟨⟨⟨⟨-, g0⟩, gn⟩, gr⟩, g1⟩, g2⟩, g3⟩ := hg2
  obtain ⟨n1, n2, n3⟩ := okCall_of g0
  have e7 := C.2.2.2.2.2.2.2.2.2.1
  have e8 := C.2.2.2.2.2.2.2.2.2.2
  have hMet := met_of (l := l) (plain_all a ha) hlen hM hΨ D aC o
  have hst0 : (As.reverse ++ .ref k :: st).map (tr o) = (As.map (tr o)).reverse ++ .ref (o.1 + k) :: st.map (tr o) := by
    rw [List.map_append, List.map_cons, tr_ref hR.2.1 hw, List.map_reverse]
  rw [hst0]
  refine ok_call hΨ hcap hscap h C hsc ho hR hS hl hc hk (va_runI (bytes := mCode a) (maxL := mMax a) (As := As.map (tr o)) (rest := st.map (tr o)) ⟨C.1, C.2.1, C.2.2.1, C.2.2.2.2.1, C.2.2.2.2.2.1⟩ hMet ⟨callB_of b C.2.2.2.2.2.1 (gw_in2 ha) (by rw [cdW, gr]) rfl rfl (C.2.2.2.2.2.1 _ (wk_mem g3)) (C.2.2.2.2.2.1 _ (wk_mem g1)) n1 ⟨by show mFr a + 1 ≤ _; omega, by show 8 + (mMax a + 11) + mLo a ≤ _; omega⟩, gn, C.2.2.2.2.2.1 _ (wk_mem g2)⟩ ⟨PcM.blind D aC o w _, fun U hU hW => ⟨?_, by rw [hU]; exact hR, KU.warm hW C.2.2.2.2.2.2.2.2.1⟩⟩ rfl (by rw [List.length_map]; exact hn) hl.1 rfl (lv_room (by rw [rest_sum]; exact hrest)) hd ⟨by obtain ⟨b1, b2, b3, b4, b5⟩ := hc; omega, by obtain ⟨b1, b2, b3, b4, b5⟩ := hc; omega⟩)
  rw [List.map_cons, tr_ref hR.2.1 hw]
theorem r_callIN {idx w1 w2 k dc ds : Nat} {c0 : MCell} {As : List Value} (hf : fetch i pc = some (.invokespecial idx, nx, a, b, [w1, w2], .int 1)) (ha : a < 154) (hw : w[k]? = some c0) (hn : As.length = b) (hlen : (argL (.ref k :: As)).length ≤ mMax a) (hrest : (st.map fun v => v.category).sum ≤ 8)
    (hM : Ok none a 0 (argL (.ref k :: As)) [] w (w.length + dc) (wsz w + ds) Ψ) (hΨ : ∀ r w', Ψ r w' → w'.length = w.length + dc ∧ wsz w' = wsz w + ds) (hcap : w.length + dc ≤ cap) (hscap : wsz w + ds ≤ scap) (h : ∀ r w', Ψ r w' → Ok sc i nx lv (r.toList ++ st) w' cap scap Φ) : Ok sc i pc lv (As.reverse ++ .ref k :: st) w cap scap Φ := by
  intro p l e R s m args below meth c H locs cells slots Q D aC o ls C hsc ho hR hS hl hc hk
  obtain ⟨hd, rfl, hg⟩ := ck_dec hf rfl
  have hg2 : ((decide (Value.int 1 = .int 2) && Nat.ble 1 (mFr i) && Nat.ble 20 (mLo i) && wk w1 (.methodLink (mName i).cls idx objY) && wk w2 (.instanceMethod objY)) || (decide (Value.int 1 = .int 1) && okCall i a b && decide ((mName a).name = "<init>") && decide (mRet a = none) && decide ((mName i).cls = RX7) && decide ((idx, mName a) ∈ NESTS) && wk w1 (.instanceMethod (mName a)) && wk w2 (.initialized (mName a).cls))) = true := hg
  rw [show decide (Value.int 1 = Value.int 2) = false from by decide] at hg2
  simp only [Bool.false_and, Bool.false_or, Bool.and_eq_true, decide_eq_true_eq] at hg2
  obtain ⟨⟨⟨⟨⟨⟨⟨-, g0⟩, gn⟩, gr⟩, gc⟩, gm⟩, g2⟩, g3⟩ := hg2
  obtain ⟨n1, n2, n3⟩ := okCall_of g0
  have e7 := C.2.2.2.2.2.2.2.2.2.1
  have e8 := C.2.2.2.2.2.2.2.2.2.2
  have hMet := met_of (l := l) (plain_all a ha) hlen hM hΨ D aC o
  have hst0 : (As.reverse ++ .ref k :: st).map (tr o) = (As.map (tr o)).reverse ++ .ref (o.1 + k) :: st.map (tr o) := by
    rw [List.map_append, List.map_cons, tr_ref hR.2.1 hw, List.map_reverse]
  rw [hst0]
  have hnest : va_Nw (.methodLinkNest (mName i).cls idx (mName a) RX7) s := by
    rw [gc]
    exact C.2.2.2.2.2.2.2.2.1.2.2 _ gm
  refine ok_call hΨ hcap hscap h C hsc ho hR hS hl hc hk (va_runIN (bytes := mCode a) (maxL := mMax a) (host := RX7) (As := As.map (tr o)) (rest := st.map (tr o)) ⟨C.1, C.2.1, C.2.2.1, C.2.2.2.2.1, C.2.2.2.2.2.1⟩ hMet ⟨va_cnB b C.2.2.2.2.2.1 (gw_in2 ha) (by rw [cdW, gr]) rfl rfl hnest (C.2.2.2.2.2.1 _ (wk_mem g3)) n1 ⟨by show mFr a + 1 ≤ _; omega, by show 8 + (mMax a + 11) + mLo a ≤ _; omega⟩, gn, C.2.2.2.2.2.1 _ (wk_mem g2)⟩ ⟨PcM.blind D aC o w _, fun U hU hW => ⟨?_, by rw [hU]; exact hR, KU.warm hW C.2.2.2.2.2.2.2.2.1⟩⟩ rfl (by rw [List.length_map]; exact hn) hl.1 rfl (lv_room (by rw [rest_sum]; exact hrest)) hd ⟨by obtain ⟨b1, b2, b3, b4, b5⟩ := hc; omega, by obtain ⟨b1, b2, b3, b4, b5⟩ := hc; omega⟩)
  rw [List.map_cons, tr_ref hR.2.1 hw]
end CALLS
