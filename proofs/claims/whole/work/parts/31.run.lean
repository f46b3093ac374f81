/-! the class: run, needed budget, register -/
theorem OP_of {op ra rb : FI} {n : Nat} (h : WFP op ra rb n) : OPok op rb n := by
  intro i h0 h1
  obtain ⟨a1, a2, a3, a4, a5⟩ := h i h0 h1
  refine ⟨a1.1, a1.2, ⟨by omega, by omega⟩, fun hj => ?_⟩
  have := of_decide_eq_true hj
  exact a5 (by omega)
/-- the class's own cells hold a program of n instructions with its control flow and its prices -/
def CP (Z : ZW) (n : Nat) : Prop := n ≤ 24 ∧ Z 4 0 = n ∧ WFP (Z 5) (Z 6) (Z 7) n ∧ COk (Z 8) ∧ GP (Z 5) (Z 7) n Z ∧ PP (Z 8) (Z 5) (Z 7) n Z ∧ ∀ i, 0 ≤ i → i < (24 : Int) → Z 28 i = 0
def ent (co op rb : FI) (n : Nat) (m : Int) : FI := if m = 0 then (fun _ => 0) else if m = 1 then gBE co op rb n else gCE co op rb n
def RN (co op ra rb : FI) (n : Nat) (m bu : Int) : RES := rn n op ra rb (fun i => co (op i)) (ent co op rb n m) 3000 0 0 false bu 0 (fun _ => 0)
theorem beF_in {st V : FI} {B : Int} (hB : 0 ≤ B) : ∀ (t : Nat) (i : Int), (∀ b : Nat, b < t → 0 ≤ V b ∧ V b ≤ B) → 0 ≤ beF st V t i ∧ beF st V t i ≤ B := by
  intro t
  induction t with
  | zero => intro i _; exact ⟨Int.le_refl _, hB⟩
  | succ t ih =>
    intro i h
    unfold beF
    split
    · exact h t (by omega)
    · exact ih i (fun b hb => h b (by omega))
theorem ccF_in {H C : FI} {h : Int} : ∀ (t : Nat), (∀ i : Nat, i < t → 1 ≤ C i ∧ C i ≤ 216) → 0 ≤ ccF H C t h ∧ ccF H C t h ≤ 216 * t := by
  intro t
  induction t with
  | zero => intro _; exact ⟨Int.le_refl _, Int.le_refl _⟩
  | succ t ih =>
    intro h
    have a := ih (fun i hi => h i (by omega))
    have c := h t (by omega)
    unfold ccF
    split <;> omega
theorem ent_in {co op rb : FI} {n : Nat} (hn : n ≤ 24) (hop : OPok op rb n) (hco : COk co) (m i : Int) : 0 ≤ ent co op rb n m i ∧ ent co op rb n m i ≤ 10000 := by
  have g := gok hn hop hco
  have hnb := gnb_le op rb n
  have hc : ∀ b : Nat, b < gnb op rb n → 1 ≤ gC co op rb n b ∧ gC co op rb n b ≤ 216 := fun b hb => (g b (by omega) (by omega)).2.2
  unfold ent
  split
  · exact ⟨Int.le_refl _, show (0 : Int) ≤ 10000 by decide⟩
  · split
    · have := beF_in (st := gst op rb n) (V := gC co op rb n) (B := 10000) (by decide) (gnb op rb n) i (fun b hb => by have := hc b hb; omega)
      exact this
    · refine beF_in (st := gst op rb n) (V := fun b => if gH op rb n b = b then gK co op rb n (gH op rb n b) else 0) (B := 10000) (by decide) (gnb op rb n) i (fun b hb => ?_)
      show 0 ≤ (if gH op rb n b = b then gK co op rb n (gH op rb n b) else 0) ∧ (if gH op rb n b = b then gK co op rb n (gH op rb n b) else 0) ≤ 10000
      split
      · have := ccF_in (H := gH op rb n) (C := gC co op rb n) (h := gH op rb n b) (gnb op rb n) hc
        unfold gK
        omega
      · decide
theorem rn_congr {n : Nat} {op ra rb ic en op' ra' rb' ic' en' : FI} (h : ∀ i, 0 ≤ i → i < (n : Int) → op i = op' i ∧ ra i = ra' i ∧ rb i = rb' i ∧ ic i = ic' i ∧ en i = en' i) : ∀ (d s : Nat) (a : Int) (p : Bool) (r c : Int) (v : FI), rn n op ra rb ic en d s a p r c v = rn n op' ra' rb' ic' en' d s a p r c v := by
  intro d
  induction d with
  | zero => intro s a p r c v; rfl
  | succ d ih =>
    intro s a p r c v
    unfold rn
    by_cases ha : 0 ≤ a ∧ a < (n : Int)
    · obtain ⟨e1, e2, e3, e4, e5⟩ := h a ha.1 ha.2
      simp only [e1, e2, e3, e4, e5, ih]
    · rw [if_neg ha, if_neg ha]
theorem if_P {P : RES → Prop} {c : Prop} [Decidable c] {a b : RES} (ha : P a) (hb : P b) : P (if c then a else b) := by
  split
  · exact ha
  · exact hb
theorem rn_st {n : Nat} {op ra rb ic en : FI} : ∀ (d s : Nat) (a : Int) (p : Bool) (r c : Int) (v : FI), (fun q : RES => 0 ≤ q.1 ∧ q.1 ≤ 2) (rn n op ra rb ic en d s a p r c v) := by
  have z : ∀ (x : Int × Int × Int × Int × FI) (y : Int), 0 ≤ y → y ≤ 2 → (fun q : RES => 0 ≤ q.1 ∧ q.1 ≤ 2) (y, x) := fun x y h1 h2 => ⟨h1, h2⟩
  intro d
  induction d with
  | zero => intro s a p r c v; exact if_P (P := fun q : RES => 0 ≤ q.1 ∧ q.1 ≤ 2) (z _ _ (by decide) (by decide)) (z _ _ (by decide) (by decide))
  | succ d ih =>
    intro s a p r c v
    exact if_P (P := fun q : RES => 0 ≤ q.1 ∧ q.1 ≤ 2) (if_P (P := fun q : RES => 0 ≤ q.1 ∧ q.1 ≤ 2) (ih _ _ _ _ _ _) (if_P (P := fun q : RES => 0 ≤ q.1 ∧ q.1 ≤ 2) (ih _ _ _ _ _ _) (z _ _ (by decide) (by decide)))) (z _ _ (by decide) (by decide))
theorem CP_c {Z : ZW} {n : Nat} (h : CP Z n) : ∀ i, 0 ≤ i → i < (n : Int) → (0 ≤ Z 27 i ∧ Z 27 i ≤ 9) ∧ (0 ≤ Z 28 i ∧ Z 28 i ≤ 10000) ∧ (0 ≤ Z 29 i ∧ Z 29 i ≤ 10000) ∧ (0 ≤ Z 30 i ∧ Z 30 i ≤ 10000) := by
  obtain ⟨h1, h2, h3, h4, h5, h6, h7⟩ := h
  intro i i0 i1
  obtain ⟨a1, a2, a3⟩ := h6.1 i i0 i1
  have b1 := h7 i i0 (by omega)
  have c1 := ent_in h1 (OP_of h3) h4 1 i
  have c2 := ent_in h1 (OP_of h3) h4 2 i
  have d1 := h4 (Z 5 i) (h3 i i0 i1).1.1 (by have := (h3 i i0 i1).1.2; omega)
  rw [a1, a2, a3, b1]
  exact ⟨by omega, by decide, c1, c2⟩
theorem CP_rn {Z : ZW} {n : Nat} (h : CP Z n) (bu : Int) : rn n (Z 5) (Z 6) (Z 7) (Z 27) (Z 28) 3000 0 0 false bu 0 (fun _ => 0) = RN (Z 8) (Z 5) (Z 6) (Z 7) n 0 bu ∧ rn n (Z 5) (Z 6) (Z 7) (Z 27) (Z 29) 3000 0 0 false bu 0 (fun _ => 0) = RN (Z 8) (Z 5) (Z 6) (Z 7) n 1 bu ∧ rn n (Z 5) (Z 6) (Z 7) (Z 27) (Z 30) 3000 0 0 false bu 0 (fun _ => 0) = RN (Z 8) (Z 5) (Z 6) (Z 7) n 2 bu := by
  obtain ⟨h1, h2, h3, h4, h5, h6, h7⟩ := h
  refine ⟨rn_congr (fun i i0 i1 => ⟨rfl, rfl, rfl, (h6.1 i i0 i1).1, ?_⟩) _ _ _ _ _ _ _, rn_congr (fun i i0 i1 => ⟨rfl, rfl, rfl, (h6.1 i i0 i1).1, ?_⟩) _ _ _ _ _ _ _, rn_congr (fun i i0 i1 => ⟨rfl, rfl, rfl, (h6.1 i i0 i1).1, ?_⟩) _ _ _ _ _ _ _⟩
  · exact h7 i i0 (by omega)
  · exact (h6.1 i i0 i1).2.1
  · exact (h6.1 i i0 i1).2.2
theorem s_register {Z : ZW} {J : Int64} {x : Int} (hx : RG x) : D 86 [.ref 0, .int (I x)] Z J (some (.int (I (if 0 ≤ x ∧ x < 4 then Z 60 x else 0)))) Z J := by
  unfold D Mz
  refine z_aload_n rfl rfl ?_
  refine z_getR rfl rfl rfl rfl ?_
  refine z_iload_n rfl rfl ?_
  refine z_callV1 rfl rfl rfl rfl rfl rfl (s_valueOf_59 hx) ?_
  exact z_iret rfl rfl ⟨rfl, rfl, rfl⟩
theorem s_run_bad {Z : ZW} {J : Int64} {m bu : Int} (hm : RG m) (hb : RG bu) (h : ¬ ((0 ≤ m ∧ m ≤ 2) ∧ 0 ≤ bu ∧ bu ≤ 30000)) : D 82 [.ref 0, .int (I m), .int (I bu)] Z J (some (.int (I (-2)))) (rf Z (-2)) J := by
  unfold D Mz
  refine z_iload_n rfl rfl ?_
  refine z_if_lt rfl (by omega) (fun h1 => ?_) (fun h1 => ?_)
  · refine z_aload_n rfl rfl ?_
    refine z_bipush rfl (by decide) ?_
    refine z_callV1 rfl rfl rfl rfl rfl rfl (s_refuse (by omega)) ?_
    exact z_iret rfl rfl ⟨rfl, rfl, rfl⟩
  · refine z_iload_n rfl rfl ?_
    refine z_iconst rfl ?_
    refine z_icmp_gt rfl (by omega) (by omega) (fun h6 => ?_) (fun h6 => ?_)
    · refine z_aload_n rfl rfl ?_
      refine z_bipush rfl (by decide) ?_
      refine z_callV1 rfl rfl rfl rfl rfl rfl (s_refuse (by omega)) ?_
      exact z_iret rfl rfl ⟨rfl, rfl, rfl⟩
    · refine z_iload_n rfl rfl ?_
      refine z_if_lt rfl (by omega) (fun h10 => ?_) (fun h10 => ?_)
      · refine z_aload_n rfl rfl ?_
        refine z_bipush rfl (by decide) ?_
        refine z_callV1 rfl rfl rfl rfl rfl rfl (s_refuse (by omega)) ?_
        exact z_iret rfl rfl ⟨rfl, rfl, rfl⟩
      · refine z_iload_n rfl rfl ?_
        refine z_sipush rfl (by decide) ?_
        refine z_icmp_le rfl (by omega) (by omega) (fun h17 => ?_) (fun h17 => ?_)
        · exfalso; omega
        · refine z_aload_n rfl rfl ?_
          refine z_bipush rfl (by decide) ?_
          refine z_callV1 rfl rfl rfl rfl rfl rfl (s_refuse (by omega)) ?_
          exact z_iret rfl rfl ⟨rfl, rfl, rfl⟩
theorem s_run_0 {Z : ZW} {J : Int64} {n : Nat} {bu : Int} (hc : CP Z n) (hb : 0 ≤ bu ∧ bu ≤ 30000) : Mz 82 [.ref 0, .int (I 0), .int (I bu)] Z J (fun r Z' J' => J' = J ∧ r = some (.int (I (RN (Z 8) (Z 5) (Z 6) (Z 7) n 0 bu).1)) ∧ PX_59 Z (RN (Z 8) (Z 5) (Z 6) (Z 7) n 0 bu) Z') := by
  unfold Mz
  have hcc := CP_c hc
  have hr := (CP_rn hc bu).1
  refine z_iload_n rfl rfl ?_
  refine z_if_lt rfl (by omega) (fun h1 => ?_) (fun h1 => ?_)
  · exfalso; omega
  · refine z_iload_n rfl rfl ?_
    refine z_iconst rfl ?_
    refine z_icmp_gt rfl (by omega) (by omega) (fun h6 => ?_) (fun h6 => ?_)
    · exfalso; omega
    · refine z_iload_n rfl rfl ?_
      refine z_if_lt rfl (by omega) (fun h10 => ?_) (fun h10 => ?_)
      · exfalso; omega
      · refine z_iload_n rfl rfl ?_
        refine z_sipush rfl (by decide) ?_
        refine z_icmp_le rfl (by omega) (by omega) (fun h17 => ?_) (fun h17 => ?_)
        · refine z_aload_n rfl rfl ?_
          refine z_getR rfl rfl rfl rfl ?_
          refine z_aload_n rfl rfl ?_
          refine z_getR rfl rfl rfl rfl ?_
          refine z_aload_n rfl rfl ?_
          refine z_getR rfl rfl rfl rfl ?_
          refine z_iload_n rfl rfl ?_
          refine z_iload_n rfl rfl ?_
          refine z_callV4g rfl rfl rfl rfl rfl rfl (s_exec_59_0 hc.2.1 hc.1 hc.2.2.1 (fun i i0 i1 => ⟨(hcc i i0 i1).1, (hcc i i0 i1).2.1⟩) hb) (fun r41 Z41 J41 q41 => ?_)
          obtain ⟨rfl, rfl, q⟩ := q41
          rw [hr] at q
          show OkZ none 82 44 _ [] _ _ _
          refine z_aload_n rfl rfl ?_
          refine z_getR rfl rfl rfl rfl ?_
          refine z_getI (bi := 0) rfl rfl rfl rfl ?_
          refine z_iret rfl rfl ⟨rfl, ?_, q⟩
          rw [q.1]
        · exfalso; omega
theorem s_run_1 {Z : ZW} {J : Int64} {n : Nat} {bu : Int} (hc : CP Z n) (hb : 0 ≤ bu ∧ bu ≤ 30000) : Mz 82 [.ref 0, .int (I 1), .int (I bu)] Z J (fun r Z' J' => J' = J ∧ r = some (.int (I (RN (Z 8) (Z 5) (Z 6) (Z 7) n 1 bu).1)) ∧ PX_59 Z (RN (Z 8) (Z 5) (Z 6) (Z 7) n 1 bu) Z') := by
  unfold Mz
  have hcc := CP_c hc
  have hr := (CP_rn hc bu).2.1
  refine z_iload_n rfl rfl ?_
  refine z_if_lt rfl (by omega) (fun h1 => ?_) (fun h1 => ?_)
  · exfalso; omega
  · refine z_iload_n rfl rfl ?_
    refine z_iconst rfl ?_
    refine z_icmp_gt rfl (by omega) (by omega) (fun h6 => ?_) (fun h6 => ?_)
    · exfalso; omega
    · refine z_iload_n rfl rfl ?_
      refine z_if_lt rfl (by omega) (fun h10 => ?_) (fun h10 => ?_)
      · exfalso; omega
      · refine z_iload_n rfl rfl ?_
        refine z_sipush rfl (by decide) ?_
        refine z_icmp_le rfl (by omega) (by omega) (fun h17 => ?_) (fun h17 => ?_)
        · refine z_aload_n rfl rfl ?_
          refine z_getR rfl rfl rfl rfl ?_
          refine z_aload_n rfl rfl ?_
          refine z_getR rfl rfl rfl rfl ?_
          refine z_aload_n rfl rfl ?_
          refine z_getR rfl rfl rfl rfl ?_
          refine z_iload_n rfl rfl ?_
          refine z_iload_n rfl rfl ?_
          refine z_callV4g rfl rfl rfl rfl rfl rfl (s_exec_59_1 hc.2.1 hc.1 hc.2.2.1 (fun i i0 i1 => ⟨(hcc i i0 i1).1, (hcc i i0 i1).2.2.1⟩) hb) (fun r41 Z41 J41 q41 => ?_)
          obtain ⟨rfl, rfl, q⟩ := q41
          rw [hr] at q
          show OkZ none 82 44 _ [] _ _ _
          refine z_aload_n rfl rfl ?_
          refine z_getR rfl rfl rfl rfl ?_
          refine z_getI (bi := 0) rfl rfl rfl rfl ?_
          refine z_iret rfl rfl ⟨rfl, ?_, q⟩
          rw [q.1]
        · exfalso; omega
theorem s_run_2 {Z : ZW} {J : Int64} {n : Nat} {bu : Int} (hc : CP Z n) (hb : 0 ≤ bu ∧ bu ≤ 30000) : Mz 82 [.ref 0, .int (I 2), .int (I bu)] Z J (fun r Z' J' => J' = J ∧ r = some (.int (I (RN (Z 8) (Z 5) (Z 6) (Z 7) n 2 bu).1)) ∧ PX_59 Z (RN (Z 8) (Z 5) (Z 6) (Z 7) n 2 bu) Z') := by
  unfold Mz
  have hcc := CP_c hc
  have hr := (CP_rn hc bu).2.2
  refine z_iload_n rfl rfl ?_
  refine z_if_lt rfl (by omega) (fun h1 => ?_) (fun h1 => ?_)
  · exfalso; omega
  · refine z_iload_n rfl rfl ?_
    refine z_iconst rfl ?_
    refine z_icmp_gt rfl (by omega) (by omega) (fun h6 => ?_) (fun h6 => ?_)
    · exfalso; omega
    · refine z_iload_n rfl rfl ?_
      refine z_if_lt rfl (by omega) (fun h10 => ?_) (fun h10 => ?_)
      · exfalso; omega
      · refine z_iload_n rfl rfl ?_
        refine z_sipush rfl (by decide) ?_
        refine z_icmp_le rfl (by omega) (by omega) (fun h17 => ?_) (fun h17 => ?_)
        · refine z_aload_n rfl rfl ?_
          refine z_getR rfl rfl rfl rfl ?_
          refine z_aload_n rfl rfl ?_
          refine z_getR rfl rfl rfl rfl ?_
          refine z_aload_n rfl rfl ?_
          refine z_getR rfl rfl rfl rfl ?_
          refine z_iload_n rfl rfl ?_
          refine z_iload_n rfl rfl ?_
          refine z_callV4g rfl rfl rfl rfl rfl rfl (s_exec_59_2 hc.2.1 hc.1 hc.2.2.1 (fun i i0 i1 => ⟨(hcc i i0 i1).1, (hcc i i0 i1).2.2.2⟩) hb) (fun r41 Z41 J41 q41 => ?_)
          obtain ⟨rfl, rfl, q⟩ := q41
          rw [hr] at q
          show OkZ none 82 44 _ [] _ _ _
          refine z_aload_n rfl rfl ?_
          refine z_getR rfl rfl rfl rfl ?_
          refine z_getI (bi := 0) rfl rfl rfl rfl ?_
          refine z_iret rfl rfl ⟨rfl, ?_, q⟩
          rw [q.1]
        · exfalso; omega
theorem s_run {Z : ZW} {J : Int64} {n : Nat} {m bu : Int} (hc : CP Z n) (hm : 0 ≤ m ∧ m ≤ 2) (hb : 0 ≤ bu ∧ bu ≤ 30000) : Mz 82 [.ref 0, .int (I m), .int (I bu)] Z J (fun r Z' J' => J' = J ∧ r = some (.int (I (RN (Z 8) (Z 5) (Z 6) (Z 7) n m bu).1)) ∧ PX_59 Z (RN (Z 8) (Z 5) (Z 6) (Z 7) n m bu) Z') := by
  have h : m = 0 ∨ m = 1 ∨ m = 2 := by omega
  rcases h with rfl | rfl | rfl
  · exact s_run_0 hc hb
  · exact s_run_1 hc hb
  · exact s_run_2 hc hb
theorem s_needed {Z : ZW} {J : Int64} {n : Nat} (hc : CP Z n) : Mz 90 [.ref 0] Z J (fun r Z' J' => J' = J ∧ r = some (.int (I (if (RN (Z 8) (Z 5) (Z 6) (Z 7) n 0 30000).1 = 0 then 30000 - (RN (Z 8) (Z 5) (Z 6) (Z 7) n 0 30000).2.2.1 else -1))) ∧ PX_61 Z (RN (Z 8) (Z 5) (Z 6) (Z 7) n 0 30000) Z') := by
  unfold Mz
  have hcc := CP_c hc
  have hr := (CP_rn hc 30000).1
  have hst : 0 ≤ (RN (Z 8) (Z 5) (Z 6) (Z 7) n 0 30000).1 ∧ (RN (Z 8) (Z 5) (Z 6) (Z 7) n 0 30000).1 ≤ 2 := rn_st _ _ _ _ _ _ _
  refine z_aload_n rfl rfl ?_
  refine z_getR rfl rfl rfl rfl ?_
  refine z_aload_n rfl rfl ?_
  refine z_getR rfl rfl rfl rfl ?_
  refine z_aload_n rfl rfl ?_
  refine z_getR rfl rfl rfl rfl ?_
  refine z_iconst rfl ?_
  refine z_sipush rfl (by decide) ?_
  refine z_callV4g rfl rfl rfl rfl rfl rfl (s_exec_61_0 hc.2.1 hc.1 hc.2.2.1 (fun i i0 i1 => ⟨(hcc i i0 i1).1, (hcc i i0 i1).2.1⟩) (by decide)) (fun r16 Z16 J16 q16 => ?_)
  obtain ⟨rfl, rfl, q⟩ := q16
  rw [hr] at q
  have q1 := q.1
  show OkZ none 90 19 _ [] _ _ _
  refine z_aload_n rfl rfl ?_
  refine z_getR rfl rfl rfl rfl ?_
  refine z_getI (bi := 0) rfl rfl rfl rfl ?_
  refine z_if_ne rfl (by omega) (fun h26 => ?_) (fun h26 => ?_)
  · refine z_iconst rfl ?_
    refine z_iret rfl rfl ⟨rfl, ?_, q⟩
    rw [if_neg (by omega)]
  · refine z_sipush rfl (by decide) ?_
    refine z_aload_n rfl rfl ?_
    refine z_getR rfl rfl rfl rfl ?_
    refine z_getI (bi := 2) rfl rfl rfl rfl ?_
    refine z_isub rfl ?_
    refine z_goto rfl ?_
    refine z_iret rfl rfl ⟨rfl, ?_, q⟩
    rw [if_pos (by omega), q.2.2.1]
