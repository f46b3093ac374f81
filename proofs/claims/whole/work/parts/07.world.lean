/-! a rule an instruction: what reads or writes the world -/
def tyOf (a : Nat) : Nat → FieldType := match a with
  | 0 => tyX0
  | 1 => tyX1
  | 2 => tyX2
  | 3 => tyX3
  | 4 => tyX4
  | 5 => tyX5
  | 6 => tyX6
  | 7 => tyX7
  | _ => tyX8
theorem CL_in {a : Nat} {q : vw_C} (h : CL[a]? = some q) : ∀ w ∈ u_ws q.1 q.2.1 q.2.2, w ∈ GW := by
  match a, h with
  | 0, h => cases h; exact inX0
  | 1, h => cases h; exact inX1
  | 2, h => cases h; exact inX2
  | 3, h => cases h; exact inX3
  | 4, h => cases h; exact inX4
  | 5, h => cases h; exact inX5
  | 6, h => cases h; exact inX6
  | 7, h => cases h; exact inX7
  | 8, h => cases h; exact inX8
  | n + 9, h => simp [CL] at h
theorem CL_ty {a : Nat} {q : vw_C} (h : CL[a]? = some q) : ∀ k, k < q.2.2 → parseFieldDescriptor (q.2.1 k).2.2.1 = some (tyOf a k) := by
  match a, h with
  | 0, h => cases h; exact tyX0_ok
  | 1, h => cases h; exact tyX1_ok
  | 2, h => cases h; exact tyX2_ok
  | 3, h => cases h; exact tyX3_ok
  | 4, h => cases h; exact tyX4_ok
  | 5, h => cases h; exact tyX5_ok
  | 6, h => cases h; exact tyX6_ok
  | 7, h => cases h; exact tyX7_ok
  | 8, h => cases h; exact tyX8_ok
  | n + 9, h => simp [CL] at h
theorem CL_nm {a : Nat} {q : vw_C} (h : CL[a]? = some q) : ∀ a, a < q.2.2 → ∀ b, b < q.2.2 → a ≠ b → (q.2.1 a).2.1 ≠ (q.2.1 b).2.1 := by
  match a, h with
  | 0, h => cases h; exact nmX0
  | 1, h => cases h; exact nmX1
  | 2, h => cases h; exact nmX2
  | 3, h => cases h; exact nmX3
  | 4, h => cases h; exact nmX4
  | 5, h => cases h; exact nmX5
  | 6, h => cases h; exact nmX6
  | 7, h => cases h; exact nmX7
  | 8, h => cases h; exact nmX8
  | n + 9, h => simp [CL] at h
def fitV : FieldType → Value → Bool
  | .int, .int _ => true
  | .long, .long _ => true
  | .object _, .ref _ => true
  | .array _, .ref _ => true
  | _, _ => false
theorem fitV_ok {ty : FieldType} {v : Value} (h : fitV ty v = true) (o : Nat × Nat) : narrow ty (tr o v) = tr o v ∧ fits ty (tr o v) = true := by
  cases ty <;> cases v <;> first | exact ⟨rfl, rfl⟩ | (simp [fitV] at h; done)
theorem ok_getf {i pc idx a b w1 : Nat} {cv : Value} (h : okAt i pc (.getfield idx) a b [w1] cv = true) : ∃ q, CL[a]? = some q ∧ b < q.2.2 ∧ Cond.fieldLink (mName i).cls idx (q.2.1 b).1 (q.2.1 b).2.1 (q.2.1 b).2.2.1 ∈ GW := by
  have h2 : (match CL[a]? with
    | some C => Nat.blt b C.2.2 && wk w1 (.fieldLink (mName i).cls idx (C.2.1 b).1 (C.2.1 b).2.1 (C.2.1 b).2.2.1)
    | none => false) = true := h
  generalize CL[a]? = z at h2 ⊢
  cases z with
  | none => cases h2
  | some q =>
    simp only [Bool.and_eq_true] at h2
    exact ⟨q, rfl, Nat.le_of_ble_eq_true h2.1, wk_mem h2.2⟩
theorem ok_putf {i pc idx a b w1 : Nat} {cv : Value} (h : okAt i pc (.putfield idx) a b [w1] cv = true) : ∃ q, CL[a]? = some q ∧ b < q.2.2 ∧ Cond.fieldLink (mName i).cls idx (q.2.1 b).1 (q.2.1 b).2.1 (q.2.1 b).2.2.1 ∈ GW ∧ ((q.2.1 b).2.2.2 = false ∨ ((q.2.1 b).2.2.2 = true ∧ (mName i).name = "<init>" ∧ (q.2.1 b).1 = (mName i).cls)) := by
  have h2 : (match CL[a]? with
    | some C => Nat.blt b C.2.2 && wk w1 (.fieldLink (mName i).cls idx (C.2.1 b).1 (C.2.1 b).2.1 (C.2.1 b).2.2.1) && (!(C.2.1 b).2.2.2 || (decide ((mName i).name = "<init>") && decide ((C.2.1 b).1 = (mName i).cls)))
    | none => false) = true := h
  generalize CL[a]? = z at h2 ⊢
  cases z with
  | none => cases h2
  | some q =>
    simp only [Bool.and_eq_true, Bool.or_eq_true, decide_eq_true_eq] at h2
    refine ⟨q, rfl, Nat.le_of_ble_eq_true h2.1.1, wk_mem h2.1.2, ?_⟩
    by_cases hb : (q.2.1 b).2.2.2 = true
    · right
      rcases h2.2 with h3 | h3
      · rw [hb] at h3; cases h3
      · exact ⟨hb, h3⟩
    · left
      simpa using hb
theorem tr_ref {o : Nat × Nat} {w : MW} {k : Nat} {c : MCell} (hl : w.length ≤ 999) (h : w[k]? = some c) : tr o (.ref k) = .ref (o.1 + k) := by
  have h1 := (List.getElem?_eq_some_iff.mp h).1
  have h2 : k ≠ 1000 := by omega
  simp [tr, h2]
theorem trI_upd {fs : List Value} {j : Nat} {y : Int32} (hj : j < fs.length) : (fun q => trI (fs.set j (.int y))[q]?) = upd (fun q => trI fs[q]?) j y := by
  funext q
  simp only [upd, List.getElem?_set]
  by_cases hq : j = q
  · subst hq
    simp [hj, trI]
  · rw [if_neg hq, if_neg (fun h => hq h.symm)]
theorem trO_upd {o : Nat × Nat} {fs : List Value} {j y : Nat} (hj : j < fs.length) : (fun q => trO o (fs.set j (.ref y))[q]?) = va_up (fun q => trO o fs[q]?) j (some (o.1 + y)) := by
  funext q
  simp only [va_up, List.getElem?_set]
  by_cases hq : j = q
  · subst hq
    simp [hj, trO]
  · rw [if_neg hq, if_neg (fun h => hq h.symm)]
theorem vp_lt {x : Int32} {n : Nat} (h : vp_in x n) : x.toNatClampNeg < n := Nat.not_le.mp fun q => h (Or.inr q)
/-- the world has changed at one cell, of the same length -/
theorem ok_set {sc : Option (Nat × (Nat → Int32))} {i nx : Nat} {lv : List (Option Value)} {st : List Value} {w : MW} {cap scap : Nat} {Φ : Option Value → MW → Prop} {k : Nat} {c0 c1 : MCell} (hw : w[k]? = some c0) (hlen : c1.2.2.length = c0.2.2.length) (h : Ok sc i nx lv st (w.set k c1) cap scap Φ)
    {p : Program} {l : Launch} {e : Env} {R : Room} {s : State} {m : MethodId} {args : Array Value} {below : List Frame} {meth : Method} {c : Code} {H H1 : Heap} {locs locs1 : List Loc} {cells slots : Nat} {Q : State → Prop} {D : va_G} {aC : Nat → ClassId} {o : Nat × Nat} {ls : Array Slot}
    (C : Ctx i p R s m args meth c D aC) (hsc : Sc sc o s) (ho : o.1 ≤ s.heap.size) (hR : Rel D aC o w H) (hS : va_S (Up o) s.heap H locs) (hl : lv_has ls (mMax i) (lvA o lv)) (hc : Cap R s o cells slots w cap scap) (hk : Kont i p l e R s m args below meth c cells slots Q D aC o w Φ)
    (hP1 : va_P D CL ((trW o aC w).set k (o.1 + k, trC o aC c1)) H1) (hS1 : va_S (Up o) H H1 locs1) : W p l e R s m args below meth c H1 locs1 cells slots Q (F0 m nx ls (st.map (tr o))) := by
  refine w_bd (fun hsz => ?_)
  have z1 : wsz (w.set k c1) = wsz w := wsz_set hw hlen
  have z2 : (w.set k c1).length = w.length := List.length_set
  have z3 : H1.size = o.1 + (w.set k c1).length := by
    have a1 := hS1.1
    have a2 := hR.1
    have a3 := hc.1
    rw [z2]
    omega
  refine h p l e R s m args below meth c H1 locs1 cells slots Q D aC o ls C hsc ho ⟨z3, by rw [z2]; exact hR.2.1, by rw [trW_set]; exact hP1⟩ (va_S_trans hS hS1) hl ?_ ?_
  · unfold Cap
    rw [z1, z2]
    exact hc
  · intro r w' pc' H' locs' ls' cells' slots' q1 q2 q3 q4 q5 q6
    rw [z2] at q5
    rw [z1] at q6
    exact hk r w' pc' H' locs' ls' cells' slots' q1 q2 q3 q4 q5 q6
section WORLD
variable {sc : Option (Nat × (Nat → Int32))} {i pc nx a b : Nat} {ws : List Nat} {cv : Value} {lv : List (Option Value)} {st : List Value} {w : MW} {cap scap : Nat} {Φ : Option Value → MW → Prop}
theorem r_getf {idx w1 k : Nat} {fs : List Value} {v : Value} (hf : fetch i pc = some (.getfield idx, nx, a, b, [w1], cv)) (hw : w[k]? = some (false, a, fs)) (hv : fs[b]? = some v) (h : Ok sc i nx lv (v :: st) w cap scap Φ) : Ok sc i pc lv (.ref k :: st) w cap scap Φ := by
  intro p l e R s m args below meth c H locs cells slots Q D aC o ls C hsc ho hR hS hl hc hk
  obtain ⟨hd, rfl, hg⟩ := ck_dec hf rfl
  obtain ⟨⟨Cn, T, N⟩, hq, hb, hm⟩ := ok_getf hg
  show W p l e R s m args below meth c H locs cells slots Q (F0 m pc ls (tr o (.ref k) :: st.map (tr o)))
  rw [tr_ref hR.2.1 hw]
  exact va_get (v := tr o v) C.1 C.2.1 C.2.2.2.2.2.1 (CL_in hq) C.2.2.2.2.1 C.2.2.2.2.2.2.2.2.1.1 hR.2.2 k (trW_get hw) hq b hb (C.2.2.2.2.2.1 _ hm) (fun _ h9 => h9) (by rw [List.getElem?_map, hv]; rfl) hd (h p l e R s m args below meth c H locs cells slots Q D aC o ls C hsc ho hR hS hl hc hk)
theorem r_putf {idx w1 k : Nat} {fs : List Value} {v : Value} (hf : fetch i pc = some (.putfield idx, nx, a, b, [w1], cv)) (hw : w[k]? = some (false, a, fs)) (hfit : fitV (tyOf a b) v = true) (hbl : b < fs.length) (h : Ok sc i nx lv st (w.set k (false, a, fs.set b v)) cap scap Φ) : Ok sc i pc lv (v :: .ref k :: st) w cap scap Φ := by
  intro p l e R s m args below meth c H locs cells slots Q D aC o ls C hsc ho hR hS hl hc hk
  obtain ⟨hd, rfl, hg⟩ := ck_dec hf rfl
  obtain ⟨⟨Cn, T, N⟩, hq, hb, hm, hfin⟩ := ok_putf hg
  show W p l e R s m args below meth c H locs cells slots Q (F0 m pc ls (tr o v :: tr o (.ref k) :: st.map (tr o)))
  rw [tr_ref hR.2.1 hw]
  obtain ⟨f1, f2⟩ := fitV_ok hfit o
  have go : ∀ (H1 : Heap) (locs1 : List Loc), va_P D CL ((trW o aC w).set k (o.1 + k, .inr (a, (fs.map (tr o)).set b (tr o v)))) H1 → va_D (Up o) ((trW o aC w).set k (o.1 + k, .inr (a, (fs.map (tr o)).set b (tr o v)))) → va_S (Up o) H H1 locs1 → W p l e R s m args below meth c H1 locs1 cells slots Q (F0 m (pc + 3) ls (st.map (tr o))) := fun H1 locs1 hP1 _ hS1 => by
    refine ok_set (c1 := (false, a, fs.set b v)) hw (by simp) h C hsc ho hR hS hl hc hk ?_ hS1
    show va_P D CL ((trW o aC w).set k (o.1 + k, .inr (a, (fs.set b v).map (tr o)))) H1
    rw [List.map_set]
    exact hP1
  rcases hfin with hfin | ⟨hfin, hin, hdc⟩
  · exact va_put C.1 C.2.1 C.2.2.2.2.2.1 (CL_in hq) (tyOf a) (CL_ty hq) (CL_nm hq) C.2.2.2.2.1 C.2.2.2.2.2.2.2.2.1.1 hR.2.2 (trW_D o aC w) (va_S_self hS) k (trW_get hw) hq b hb (C.2.2.2.2.2.1 _ hm) (fun _ h9 => h9) hfin (CL_ty hq b hb) f1 f2 (by simpa using hbl) hd go
  · exact va_putF C.1 C.2.1 C.2.2.2.2.2.1 (CL_in hq) (tyOf a) (CL_ty hq) (CL_nm hq) C.2.2.2.2.1 C.2.2.2.2.2.2.2.2.1.1 hR.2.2 (trW_D o aC w) (va_S_self hS) k (trW_get hw) hq b hb (C.2.2.2.2.2.1 _ hm) (fun _ h9 => h9) hfin (C.2.2.2.2.2.2.2.1.trans hin) hdc (CL_ty hq b hb) f1 f2 (by simpa using hbl) hd go
theorem r_iald {k : Nat} {fs : List Value} {x y : Int32} (hf : fetch i pc = some (.iaload, nx, a, b, ws, cv)) (hw : w[k]? = some (true, 0, fs)) (hx : vp_in x fs.length) (hv : fs[x.toNatClampNeg]? = some (.int y)) (h : Ok sc i nx lv (.int y :: st) w cap scap Φ) : Ok sc i pc lv (.int x :: .ref k :: st) w cap scap Φ := by
  intro p l e R s m args below meth c H locs cells slots Q D aC o ls C hsc ho hR hS hl hc hk
  obtain ⟨hd, rfl, -⟩ := ck_dec hf rfl
  show W p l e R s m args below meth c H locs cells slots Q (F0 m pc ls (.int x :: tr o (.ref k) :: st.map (tr o)))
  rw [tr_ref hR.2.1 hw]
  refine va_iald C.1 C.2.1 C.2.2.2.2.2.2.2.2.1.1 hR.2.2 k 0 (trW_get hw) rfl hx hd ?_
  have he : trI fs[x.toNatClampNeg]? = y := by rw [hv]; rfl
  show W p l e R s m args below meth c H locs cells slots Q (F0 m (pc + 1) ls (.int (trI fs[x.toNatClampNeg]?) :: st.map (tr o)))
  rw [he]
  exact h p l e R s m args below meth c H locs cells slots Q D aC o ls C hsc ho hR hS hl hc hk
theorem r_zald {k : Nat} {fs : List Value} {x y : Int32} (hf : fetch i pc = some (.baload, nx, a, b, ws, cv)) (hw : w[k]? = some (true, 1, fs)) (hx : vp_in x fs.length) (hv : fs[x.toNatClampNeg]? = some (.int y)) (h : Ok sc i nx lv (.int y :: st) w cap scap Φ) : Ok sc i pc lv (.int x :: .ref k :: st) w cap scap Φ := by
  intro p l e R s m args below meth c H locs cells slots Q D aC o ls C hsc ho hR hS hl hc hk
  obtain ⟨hd, rfl, -⟩ := ck_dec hf rfl
  show W p l e R s m args below meth c H locs cells slots Q (F0 m pc ls (.int x :: tr o (.ref k) :: st.map (tr o)))
  rw [tr_ref hR.2.1 hw]
  refine va_zald C.1 C.2.1 C.2.2.2.2.2.2.2.2.1.1 hR.2.2 k 1 (trW_get hw) rfl hx hd ?_
  have he : trI fs[x.toNatClampNeg]? = y := by rw [hv]; rfl
  show W p l e R s m args below meth c H locs cells slots Q (F0 m (pc + 1) ls (.int (trI fs[x.toNatClampNeg]?) :: st.map (tr o)))
  rw [he]
  exact h p l e R s m args below meth c H locs cells slots Q D aC o ls C hsc ho hR hS hl hc hk
theorem r_iast {k : Nat} {fs : List Value} {x y : Int32} (hf : fetch i pc = some (.iastore, nx, a, b, ws, cv)) (hw : w[k]? = some (true, 0, fs)) (hx : vp_in x fs.length)  (h : Ok sc i nx lv st (w.set k (true, 0, fs.set x.toNatClampNeg (.int y))) cap scap Φ) : Ok sc i pc lv (.int y :: .int x :: .ref k :: st) w cap scap Φ := by
  intro p l e R s m args below meth c H locs cells slots Q D aC o ls C hsc ho hR hS hl hc hk
  obtain ⟨hd, rfl, -⟩ := ck_dec hf rfl
  show W p l e R s m args below meth c H locs cells slots Q (F0 m pc ls (.int y :: .int x :: tr o (.ref k) :: st.map (tr o)))
  rw [tr_ref hR.2.1 hw]
  refine va_iast C.1 C.2.1 C.2.2.2.2.2.2.2.2.1.1 hR.2.2 (trW_D o aC w) (va_S_self hS) k 0 (trW_get hw) rfl hx hd (fun H1 locs1 hP1 _ hS1 => ?_)
  refine ok_set (c1 := (true, 0, fs.set x.toNatClampNeg (.int y))) hw (by simp) h C hsc ho hR hS hl hc hk ?_ hS1
  show va_P D CL ((trW o aC w).set k (o.1 + k, .inl (aC 0, (fs.set x.toNatClampNeg (.int y)).length, .inl (fun q => trI (fs.set x.toNatClampNeg (.int y))[q]?)))) H1
  rw [trI_upd (vp_lt hx), List.length_set]
  skip
  exact hP1
theorem r_zast {k : Nat} {fs : List Value} {x y : Int32} (hf : fetch i pc = some (.bastore, nx, a, b, ws, cv)) (hw : w[k]? = some (true, 1, fs)) (hx : vp_in x fs.length) (hb : vp_nar .boolean y = y) (h : Ok sc i nx lv st (w.set k (true, 1, fs.set x.toNatClampNeg (.int y))) cap scap Φ) : Ok sc i pc lv (.int y :: .int x :: .ref k :: st) w cap scap Φ := by
  intro p l e R s m args below meth c H locs cells slots Q D aC o ls C hsc ho hR hS hl hc hk
  obtain ⟨hd, rfl, -⟩ := ck_dec hf rfl
  show W p l e R s m args below meth c H locs cells slots Q (F0 m pc ls (.int y :: .int x :: tr o (.ref k) :: st.map (tr o)))
  rw [tr_ref hR.2.1 hw]
  refine va_zast C.1 C.2.1 C.2.2.2.2.2.2.2.2.1.1 hR.2.2 (trW_D o aC w) (va_S_self hS) k 1 (trW_get hw) rfl hx hd (fun H1 locs1 hP1 _ hS1 => ?_)
  refine ok_set (c1 := (true, 1, fs.set x.toNatClampNeg (.int y))) hw (by simp) h C hsc ho hR hS hl hc hk ?_ hS1
  show va_P D CL ((trW o aC w).set k (o.1 + k, .inl (aC 1, (fs.set x.toNatClampNeg (.int y)).length, .inl (fun q => trI (fs.set x.toNatClampNeg (.int y))[q]?)))) H1
  rw [trI_upd (vp_lt hx), List.length_set]
  rw [hb] at hP1
  exact hP1
theorem r_alen {k : Nat} {fs : List Value} (hf : fetch i pc = some (.arraylength, nx, a, b, ws, cv)) (hw : w[k]? = some (true, 0, fs)) (h : Ok sc i nx lv (.int (Int32.ofNat fs.length) :: st) w cap scap Φ) : Ok sc i pc lv (.ref k :: st) w cap scap Φ := by
  intro p l e R s m args below meth c H locs cells slots Q D aC o ls C hsc ho hR hS hl hc hk
  obtain ⟨hd, rfl, -⟩ := ck_dec hf rfl
  show W p l e R s m args below meth c H locs cells slots Q (F0 m pc ls (tr o (.ref k) :: st.map (tr o)))
  rw [tr_ref hR.2.1 hw]
  exact va_alen C.1 C.2.1 C.2.2.2.2.2.2.2.2.1.1 hR.2.2 k 0 (trW_get hw) rfl rfl hd (h p l e R s m args below meth c H locs cells slots Q D aC o ls C hsc ho hR hS hl hc hk)
theorem r_aald {k y : Nat} {fs : List Value} {x : Int32} (hf : fetch i pc = some (.aaload, nx, a, b, ws, cv)) (hw : w[k]? = some (true, 2, fs)) (hx : vp_in x fs.length) (hv : fs[x.toNatClampNeg]? = some (.ref y)) (hy : y ≠ 1000) (h : Ok sc i nx lv (.ref y :: st) w cap scap Φ) : Ok sc i pc lv (.int x :: .ref k :: st) w cap scap Φ := by
  intro p l e R s m args below meth c H locs cells slots Q D aC o ls C hsc ho hR hS hl hc hk
  obtain ⟨hd, rfl, -⟩ := ck_dec hf rfl
  show W p l e R s m args below meth c H locs cells slots Q (F0 m pc ls (.int x :: tr o (.ref k) :: st.map (tr o)))
  rw [tr_ref hR.2.1 hw]
  refine va_aldq C.1 C.2.1 C.2.2.2.2.2.2.2.2.1.1 hR.2.2 k 2 (trW_get hw) rfl hx hd ?_
  have he : va_rf (trO o fs[x.toNatClampNeg]?) = tr o (.ref y) := by rw [hv]; simp [trO, va_rf, tr, hy]
  show W p l e R s m args below meth c H locs cells slots Q (F0 m (pc + 1) ls (va_rf (trO o fs[x.toNatClampNeg]?) :: st.map (tr o)))
  rw [he]
  exact h p l e R s m args below meth c H locs cells slots Q D aC o ls C hsc ho hR hS hl hc hk
theorem r_aast {k y : Nat} {fs vs : List Value} {x : Int32} (hf : fetch i pc = some (.aastore, nx, a, b, ws, cv)) (hw : w[k]? = some (true, 2, fs)) (hx : vp_in x fs.length) (hy : w[y]? = some (false, 5, vs)) (h : Ok sc i nx lv st (w.set k (true, 2, fs.set x.toNatClampNeg (.ref y))) cap scap Φ) : Ok sc i pc lv (.ref y :: .int x :: .ref k :: st) w cap scap Φ := by
  intro p l e R s m args below meth c H locs cells slots Q D aC o ls C hsc ho hR hS hl hc hk
  obtain ⟨hd, rfl, -⟩ := ck_dec hf rfl
  show W p l e R s m args below meth c H locs cells slots Q (F0 m pc ls (tr o (.ref y) :: .int x :: tr o (.ref k) :: st.map (tr o)))
  rw [tr_ref hR.2.1 hw, tr_ref hR.2.1 hy]
  refine va_astq (r := (RX5, TX5, 5)) C.1 C.2.1 C.2.2.2.2.2.2.2.2.1.1 hR.2.2 (trW_D o aC w) (va_S_self hS) k 2 y 5 (trW_get hw) rfl (trW_get hy) rfl hx hd (fun H1 locs1 hP1 _ hS1 => ?_)
  refine ok_set (c1 := (true, 2, fs.set x.toNatClampNeg (.ref y))) hw (by simp) h C hsc ho hR hS hl hc hk ?_ hS1
  show va_P D CL ((trW o aC w).set k (o.1 + k, .inl (aC 2, (fs.set x.toNatClampNeg (.ref y)).length, .inr (.inr (.inr (.inr (fun q => trO o (fs.set x.toNatClampNeg (.ref y))[q]?))))))) H1
  rw [trO_upd (vp_lt hx), List.length_set]
  exact hP1
theorem ok_nat {w1 w2 w3 w4 idx : Nat} (h : okAt i pc (.invokestatic idx) a b [w1, w2, w3, w4] cv = true) : 1 ≤ mFr i ∧ 26 ≤ mLo i ∧ ((cv = .int 3 ∧ Cond.methodLink (mName i).cls idx arraycopyName ∈ GW ∧ Cond.native arraycopyName ∈ GW ∧ Cond.static arraycopyName ∈ GW ∧ Cond.initialized "java/lang/System" ∈ GW) ∨ (cv = .int 4 ∧ Cond.methodLink (mName i).cls idx rawY ∈ GW ∧ Cond.native rawY ∈ GW ∧ Cond.static rawY ∈ GW ∧ Cond.initialized "java/lang/Float" ∈ GW)) := by
  have h2 : (Nat.ble 1 (mFr i) && Nat.ble 26 (mLo i) && ((decide (cv = .int 3) && wk w1 (.methodLink (mName i).cls idx arraycopyName) && wk w2 (.native arraycopyName) && wk w3 (.static arraycopyName) && wk w4 (.initialized "java/lang/System")) || (decide (cv = .int 4) && wk w1 (.methodLink (mName i).cls idx rawY) && wk w2 (.native rawY) && wk w3 (.static rawY) && wk w4 (.initialized "java/lang/Float")))) = true := h
  simp only [Bool.and_eq_true, Bool.or_eq_true, decide_eq_true_eq] at h2
  obtain ⟨⟨h3, h4⟩, h5⟩ := h2
  refine ⟨Nat.le_of_ble_eq_true h3, Nat.le_of_ble_eq_true h4, ?_⟩
  rcases h5 with ⟨⟨⟨⟨q0, q1⟩, q2⟩, q3⟩, q4⟩ | ⟨⟨⟨⟨q0, q1⟩, q2⟩, q3⟩, q4⟩
  · exact Or.inl ⟨q0, wk_mem q1, wk_mem q2, wk_mem q3, wk_mem q4⟩
  · exact Or.inr ⟨q0, wk_mem q1, wk_mem q2, wk_mem q3, wk_mem q4⟩
theorem trI_cpy {f g : List Value} {n : Nat} (hf : n ≤ f.length) (hg : n ≤ g.length) : (fun q => trI (f.take n ++ g.drop n)[q]?) = va_cpy (fun q => trI f[q]?) (fun q => trI g[q]?) 0 0 n := by
  funext q
  simp only [va_cpy, List.getElem?_append, List.length_take, Nat.min_eq_left hf]
  by_cases hq : q < n
  · rw [if_pos hq, if_pos ⟨Nat.zero_le _, by omega⟩, List.getElem?_take, if_pos hq]
    simp
  · rw [if_neg hq, if_neg (by omega), List.getElem?_drop, show n + (q - n) = q by omega]
theorem rest_sum (o : Nat × Nat) (st : List Value) : ((st.map (tr o)).map fun v => v.category).sum = (st.map fun v => v.category).sum := by
  rw [List.map_map]
  congr 1
  apply List.map_congr_left
  intro v _
  exact tr_cat o v
theorem r_copy {w1 w2 w3 w4 idx k0 k1 n : Nat} {fs gs : List Value} {x : Int32} (hf : fetch i pc = some (.invokestatic idx, nx, a, b, [w1, w2, w3, w4], .int 3)) (hw0 : w[k0]? = some (true, 0, fs)) (hw1 : w[k1]? = some (true, 0, gs)) (hx0 : ¬ x < 0) (hx : x.toNatClampNeg = n) (hn0 : n ≤ fs.length) (hn1 : n ≤ gs.length) (hrest : (st.map fun v => v.category).sum ≤ 8) (h : Ok sc i nx lv st (w.set k1 (true, 0, fs.take n ++ gs.drop n)) cap scap Φ) : Ok sc i pc lv (.int x :: .int 0 :: .ref k1 :: .int 0 :: .ref k0 :: st) w cap scap Φ := by
  intro p l e R s m args below meth c H locs cells slots Q D aC o ls C hsc ho hR hS hl hc hk
  obtain ⟨hd, rfl, hg⟩ := ck_dec hf rfl
  obtain ⟨g1, g2, ⟨-, g3, g4, g5, g6⟩ | ⟨g0, -⟩⟩ := ok_nat hg
  · show W p l e R s m args below meth c H locs cells slots Q (F0 m pc ls (.int x :: .int 0 :: tr o (.ref k1) :: .int 0 :: tr o (.ref k0) :: st.map (tr o)))
    rw [tr_ref hR.2.1 hw0, tr_ref hR.2.1 hw1]
    refine va_copyi C.1 C.2.1 (C.2.2.1.trans hl.1.symm) C.2.2.2.2.1 (C.2.2.2.2.2.1 _ g3) (C.2.2.2.2.2.1 _ g4) (C.2.2.2.2.2.1 _ g5) (C.2.2.2.2.2.1 _ g6) C.2.2.2.2.2.2.2.2.1.1 hR.2.2 (trW_D o aC w) (va_S_self hS) k0 k1 0 0 (trW_get hw0) (trW_get hw1) rfl rfl rfl (by decide) (by decide) hx0 (by rw [hx]; show 0 + n ≤ _; omega) (by rw [hx]; show 0 + n ≤ _; omega) (fun _ _ => rfl) (Nat.le_trans g1 C.2.2.2.2.2.2.2.2.2.1) ?_ hd (fun H1 locs1 hP1 _ hS1 => ?_)
    · rw [rest_sum]
      have e9 : nativeFrameWords "java/lang/System" "arraycopy" 5 = 7 := by decide
      have e8 := C.2.2.2.2.2.2.2.2.2.2
      omega
    · refine ok_set (c1 := (true, 0, fs.take n ++ gs.drop n)) hw1 (by simp; omega) h C hsc ho hR hS hl hc hk ?_ hS1
      show va_P D CL ((trW o aC w).set k1 (o.1 + k1, .inl (aC 0, (fs.take n ++ gs.drop n).length, .inl (fun q => trI (fs.take n ++ gs.drop n)[q]?)))) H1
      rw [trI_cpy hn0 hn1, show (fs.take n ++ gs.drop n).length = gs.length by simp; omega]
      rw [hx] at hP1
      exact hP1
  · cases g0
theorem r_raw {w1 w2 w3 w4 idx : Nat} {x : UInt32} (hf : fetch i pc = some (.invokestatic idx, nx, a, b, [w1, w2, w3, w4], .int 4)) (hrest : (st.map fun v => v.category).sum ≤ 8) (h : Ok sc i nx lv (.int x.toInt32 :: st) w cap scap Φ) : Ok sc i pc lv (.float x :: st) w cap scap Φ := by
  intro p l e R s m args below meth c H locs cells slots Q D aC o ls C hsc ho hR hS hl hc hk
  obtain ⟨hd, rfl, hg⟩ := ck_dec hf rfl
  obtain ⟨g1, g2, ⟨g0, -⟩ | ⟨-, g3, g4, g5, g6⟩⟩ := ok_nat hg
  · cases g0
  · refine vn_f2i C.1 C.2.1 (C.2.2.1.trans hl.1.symm) C.2.2.2.2.1 (C.2.2.2.2.2.1 _ g3) (C.2.2.2.2.2.1 _ g4) (C.2.2.2.2.2.1 _ g5) (C.2.2.2.2.2.1 _ g6) (Nat.le_trans g1 C.2.2.2.2.2.2.2.2.2.1) ?_ hd (h p l e R s m args below meth c H locs cells slots Q D aC o ls C hsc ho hR hS hl hc hk)
    rw [rest_sum]
    have e8 := C.2.2.2.2.2.2.2.2.2.2
    omega
end WORLD
