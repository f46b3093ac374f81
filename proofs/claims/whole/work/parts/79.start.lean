/-! THE CLAIM OUT OF ONE WALK OF THE LAW'S BODY. Your part is whole_start (and what it stands on); all else here is the same for every law, but numbers. -/
def R_law : String := "BudgetMeterLaw"
def lw_P (b : Addr) (xs : List Int32) (args : Array Value) (s : State) : Prop := args = #[.ref b] ∧ s.IntsAt b xs ∧ xs.length ≤ 1536 ∧ (Jvm.Cond.and given_1 narrow_1).before args s = true
/-- what a walk over the start with the record d0 says of its end, said of the start itself -/
theorem lw_closed {s t : State} {o : Outcome} {d0 : Drawn} {L : List Loc} {k n : Nat} (hd0 : s.drawn.sameBut d0 lw_cs) (hv : ∃ v, o = .returned v) (hW : (s.setDrawn d0).WarmedH t.vm) (hs : (s.setDrawn d0).sameButNew ({ t with vm := s.vm } : State) L k n) : State.butDraws s t lw_cs (fun t1 => Framed s o t1 L k n) := by
  have h2 : t.drawn = d0 := congrArg State.drawn hs.1
  refine ⟨⟨hv, hW, State.sameButNew.setDrawn hs s.drawn⟩, ?_, by decide⟩
  rw [h2]
  exact hd0
def lw_Q (_ : Array Value) (s : State) (o : Outcome) (t : State) : Prop := o = .returned (some (.int 1)) ∧ State.butDraws s t lw_cs (fun t1 => Framed s o t1 [] 600000 7302250)
def lw_Z (below : List Frame) (a : Array Value) (s : State) : State → Prop := fun t => ∃ o, t.status = .running ∧ Ended t below o ∧ lw_Q a s o t
/-- the law's own end, with 1 on the stack, nothing written that was there before, its room as the claim has it; d0: the record of draws at this point (at the entry s.drawn: begin with 'refine W.base ?_' and 'have hd0 := Drawn.sameBut.refl s.drawn lw_cs') -/
theorem lw_ret {p : Program} {l : Launch} {e : Env} {s : State} {m : MethodId} {below : List Frame} {meth : Method} {c : Code} {b : Nat} {d0 : Drawn} (hd0 : s.drawn.sameBut d0 lw_cs) (hx : p.tables.exec = Jvm.exec) (hb : c.code = code) (hr : meth.sig.returnType = ret) (hlocks : meth.locks = false) {pc : Nat} {H : Heap} {ls : Array Slot} (hdg : decode code pc = .ok (.ireturn, 1)) : W p l e room_1 (s.setDrawn d0) m #[Value.ref b] below meth c H [] 600000 7302250 (lw_Z below #[Value.ref b] s) (F0 m pc ls [.int 1]) := by
  intro T hT X
  obtain ⟨fs, hret, hrun, hended, hW, hframe⟩ := X.leave (v := some (.int 1)) (hlocks := hlocks) (fun h => by rw [hr] at h; cases h)
  have hmeth' : T.vm.method? m = some meth := X.method'
  refine ⟨T.setFrames fs, ?_, .returned (some (.int 1)), hrun, hended, rfl, lw_closed hd0 ⟨_, rfl⟩ hW hframe⟩
  jvm_step X.here [X.here.top, hx, hb, hdg, hmeth', hr, ret, narrow_b1]
  (try refine ⟨rfl, ?_⟩); (try refine ⟨rfl, ?_⟩)
  first | (intro acts; rw [hret _ acts rfl rfl rfl]) | rw [hret _ _ rfl rfl rfl]
  exact Steps.refl _
/-- what holds at the law's entry: the machine, the code, the tables' words (any of lw_tbl by 'hts w (by decide +kernel)'), the script of L ints xs at the cell b, what the Statement gives of the start (any of its parts by flat_of_before) -/
def lw_At (p : Program) (s : State) (m : MethodId) (meth : Method) (c : Code) (b L : Nat) (xs : Nat → Int32) : Prop :=
  p.tables.exec = Jvm.exec ∧ c.code = code ∧ meth.sig.returnType = ret ∧ c.maxLocals = 4 ∧ s.vm.findClass R_law = some m.cls ∧ (∀ w ∈ lw_tbl, w.before #[Value.ref b] s = true) ∧ va_X b L xs s s.heap ∧ b < s.heap.size ∧ meth.locks = false ∧ (Jvm.Cond.and given_1 narrow_1).before #[Value.ref b] s = true
theorem gw_tbl {w : Cond} (h : w ∈ GW) : w ∈ lw_tbl := (List.mem_filter.mp h).1
/-- the classes of the start -/
theorem start_KU {args : Array Value} {s : State} (hts : ∀ w ∈ lw_tbl, w.before args s = true) : ∃ (D : va_G) (aC : Nat → ClassId), KU D aC s := by
  obtain ⟨c0, i0, h0⟩ := u_known (C := RX0) (T := TX0) (N := 6) (n := 6) hts (fun w hw => gw_tbl (inX0 w hw)) (hts (.instantiable RX0 6) (List.mem_of_getElem? (i := 250) (by decide +kernel)))
  obtain ⟨c1, i1, h1⟩ := u_known (C := RX1) (T := TX1) (N := 6) (n := 6) hts (fun w hw => gw_tbl (inX1 w hw)) (hts (.instantiable RX1 6) (List.mem_of_getElem? (i := 250) (by decide +kernel)))
  obtain ⟨c2, i2, h2⟩ := u_known (C := RX2) (T := TX2) (N := 12) (n := 12) hts (fun w hw => gw_tbl (inX2 w hw)) (hts (.instantiable RX2 12) (List.mem_of_getElem? (i := 136) (by decide +kernel)))
  obtain ⟨c3, i3, h3⟩ := u_known (C := RX3) (T := TX3) (N := 3) (n := 3) hts (fun w hw => gw_tbl (inX3 w hw)) (hts (.instantiable RX3 3) (List.mem_of_getElem? (i := 230) (by decide +kernel)))
  obtain ⟨c4, i4, h4⟩ := u_known (C := RX4) (T := TX4) (N := 9) (n := 9) hts (fun w hw => gw_tbl (inX4 w hw)) (hts (.instantiable RX4 9) (List.mem_of_getElem? (i := 191) (by decide +kernel)))
  obtain ⟨c5, i5, h5⟩ := u_known (C := RX5) (T := TX5) (N := 5) (n := 5) hts (fun w hw => gw_tbl (inX5 w hw)) (hts (.instantiable RX5 5) (List.mem_of_getElem? (i := 103) (by decide +kernel)))
  obtain ⟨c6, i6, h6⟩ := u_known (C := RX6) (T := TX6) (N := 4) (n := 4) hts (fun w hw => gw_tbl (inX6 w hw)) (hts (.instantiable RX6 4) (List.mem_of_getElem? (i := 82) (by decide +kernel)))
  obtain ⟨c7, i7, h7⟩ := u_known (C := RX7) (T := TX7) (N := 9) (n := 9) hts (fun w hw => gw_tbl (inX7 w hw)) (hts (.instantiable RX7 9) (List.mem_of_getElem? (i := 74) (by decide +kernel)))
  obtain ⟨c8, i8, h8⟩ := u_known (C := RX8) (T := TX8) (N := 31) (n := 31) hts (fun w hw => gw_tbl (inX8 w hw)) (hts (.instantiable RX8 31) (List.mem_of_getElem? (i := 667) (by decide +kernel)))
  obtain ⟨a0, k0, p0, f0, q0, r0⟩ := Cond.arrayClass_spec (hts (.arrayClass .int) (List.mem_of_getElem? (i := 101) (by decide +kernel)))
  obtain ⟨a1, k1, p1, f1, q1, r1⟩ := Cond.arrayClass_spec (hts (.arrayClass .boolean) (List.mem_of_getElem? (i := 189) (by decide +kernel)))
  have hao := hts (.arrayOver (.object RX5)) (List.mem_of_getElem? (i := 236) (by decide +kernel))
  obtain ⟨p2, a2, k2, t2, -, q2, r2, f2⟩ := Cond.arrayOver_spec hao
  refine ⟨(fun k => match k with
    | 0 => c0
    | 1 => c1
    | 2 => c2
    | 3 => c3
    | 4 => c4
    | 5 => c5
    | 6 => c6
    | 7 => c7
    | _ => c8, fun k => match k with
    | 0 => i0
    | 1 => i1
    | 2 => i2
    | 3 => i3
    | 4 => i4
    | 5 => i5
    | 6 => i6
    | 7 => i7
    | _ => i8), (fun k => match k with
    | 0 => a0
    | 1 => a1
    | _ => a2), ⟨fun k q hq => ?_, fun k q hq => ?_⟩, va_AO.of hao, fun q hq => ?_⟩
  · match k, hq with
    | 0, hq => cases hq; exact h0
    | 1, hq => cases hq; exact h1
    | 2, hq => cases hq; exact h2
    | 3, hq => cases hq; exact h3
    | 4, hq => cases hq; exact h4
    | 5, hq => cases hq; exact h5
    | 6, hq => cases hq; exact h6
    | 7, hq => cases hq; exact h7
    | 8, hq => cases hq; exact h8
    | n + 9, hq => simp [CL] at hq
  · match k, hq with
    | 0, hq => cases hq; exact ⟨fun n z => ⟨fun k h => (by cases h), k0, q0, p0, r0⟩, f0⟩
    | 1, hq => cases hq; exact ⟨fun n z => ⟨fun k h => (by cases h), k1, q1, p1, r1⟩, f1⟩
    | 2, hq => cases hq; exact ⟨fun n z => ⟨fun k h => (by cases h), k2, q2, p2, r2⟩, k2, p2, q2, r2, t2, f2⟩
    | n + 3, hq => simp [TYS] at hq
  · have hm : ∀ w ∈ [Cond.methodLinkNest RX7 9 yX6_init RX7, Cond.methodLinkNest RX7 28 yX2_init RX7, Cond.methodLinkNest RX7 35 yX4_init RX7, Cond.methodLinkNest RX7 49 yX1_init RX7], w.before args s = true := by
      intro w hw
      rcases List.mem_cons.mp hw with rfl | hw
      · exact hts _ (List.mem_of_getElem? (i := 83) (by decide +kernel))
      rcases List.mem_cons.mp hw with rfl | hw
      · exact hts _ (List.mem_of_getElem? (i := 137) (by decide +kernel))
      rcases List.mem_cons.mp hw with rfl | hw
      · exact hts _ (List.mem_of_getElem? (i := 192) (by decide +kernel))
      rcases List.mem_cons.mp hw with rfl | hw
      · exact hts _ (List.mem_of_getElem? (i := 251) (by decide +kernel))
      cases hw
    refine va_Nw.of rfl (A := args) (hm _ ?_)
    unfold NESTS at hq
    rcases List.mem_cons.mp hq with rfl | hq
    · exact List.mem_cons_self
    rcases List.mem_cons.mp hq with rfl | hq
    · exact List.mem_cons_of_mem _ List.mem_cons_self
    rcases List.mem_cons.mp hq with rfl | hq
    · exact List.mem_cons_of_mem _ (List.mem_cons_of_mem _ List.mem_cons_self)
    rcases List.mem_cons.mp hq with rfl | hq
    · exact List.mem_cons_of_mem _ (List.mem_cons_of_mem _ (List.mem_cons_of_mem _ List.mem_cons_self))
    cases hq
/-- from the entry, for every script of at most 1536 ints, the law comes to its end with true -/
theorem whole_start {p : Program} {e : Env} {s : State} {m : MethodId} {below : List Frame} {meth : Method} {c : Code} (l : Launch) (hflags : l.flags = flags0) {b L : Nat} {xs : Nat → Int32} (hL : L ≤ 1536) (C0 : lw_At p s m meth c b L xs) (hnm : meth.name = "law") : W p l e room_1 s m #[Value.ref b] below meth c s.heap [] 0 0 (lw_Z below #[Value.ref b] s) (entryFrame m ([Value.ref b] : List Value).toArray 4) := by
  obtain ⟨hx, hb, hr, hml, hown, hts, hX, hbl, hlocks, hgv⟩ := id C0
  obtain ⟨D, aC, hKU⟩ := start_KU hts
  have hl := lv_entry ([.ref b]) (n := 4) (Nat.le_of_ble_eq_true rfl)
  rw [lg_entry_eq]
  generalize (lg_sl ([.ref b]) ++ List.replicate (4 - (lg_sl ([.ref b])).length) Slot.unset).toArray = ls at hl ⊢
  have hl : lv_has ls 4 [(0, .ref b)] := hl
  have hl2 : lv_has ls (mMax 154) (lvA (s.heap.size, b) [some (.ref 1000), none, none, none]) := by
    refine ⟨hl.1, hl.2.1, fun q hq => ?_⟩
    obtain ⟨j, u⟩ := q
    obtain ⟨v0, h1, rfl⟩ := lvA_mem.mp hq
    match j, h1 with
    | 0, h1 => cases h1; exact hl.2.2 (0, .ref b) List.mem_cons_self
    | 1, h1 => cases h1
    | 2, h1 => cases h1
    | 3, h1 => cases h1
    | n + 4, h1 => simp at h1
  refine law_ok (L := L) (xs := xs) hL p l e room_1 s m #[Value.ref b] below meth c s.heap [] 0 0 (lw_Z below #[Value.ref b] s) D aC (s.heap.size, b) ls ⟨hx, hb, hml, hr, hown, fun w hw => hts w (gw_tbl hw), hlocks, hnm, hKU, Nat.le_of_ble_eq_true rfl, Nat.le_of_ble_eq_true rfl⟩ ⟨hX, hbl, hbl⟩ (Nat.le_refl _) ⟨rfl, Nat.zero_le _, fun k q h => by simp [trW] at h⟩ va_S.rf hl2 ⟨rfl, Nat.zero_le _, Nat.zero_le _, Nat.le_of_ble_eq_true rfl, Nat.le_of_ble_eq_true rfl⟩ ?_
  intro r w' pc' H' locs' ls' cells' slots' hΦ hret hR' hS' hc1 hc2
  obtain ⟨rfl, hl80, hs80⟩ := hΦ
  have hdg : decode code pc' = .ok (.ireturn, 1) := by
    rcases hret with ⟨v, ty, h1, h2, h3, h4⟩ | ⟨v, h1, h2, h3⟩ | ⟨h1, h2, h3⟩ | ⟨v, rt, h1, h2, h3, h4, h5⟩
    · exact h4
    · cases h1
    · cases h1
    · rcases h2 with rfl | ⟨k, rfl⟩ <;> cases h1
  rw [hl80] at hc1
  rw [hs80] at hc2
  have e0 : wsz ([] : MW) = 0 := rfl
  have e1 : ([] : MW).length = 0 := rfl
  rw [e0] at hc2
  rw [e1] at hc1
  refine va_forget (fun q hq => hS'.2.2 q hq) ?_
  refine W.widen (k := 600000) (n := 7302250) (by omega) (by omega) ?_
  refine W.base ?_
  exact lw_ret (Drawn.sameBut.refl s.drawn lw_cs) hx hb hr hlocks hdg
