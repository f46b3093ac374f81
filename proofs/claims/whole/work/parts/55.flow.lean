/-! what follows a block, what comes to it: class and reference alike -/
theorem orI_comm (a b : Int) : orI a b = orI b a := by
  unfold orI
  rw [show I a ||| I b = I b ||| I a from b_ext (fun i hi => by rw [b_or, b_or, Bool.or_comm])]
theorem orI_zero {a : Int} (h : RG a) : orI a 0 = a := by
  unfold orI
  rw [show I a ||| I 0 = I a from b_ext (fun i hi => by rw [b_or, show I 0 = (0 : Int32) from rfl, b_0, Bool.or_false]), I_int h.1 h.2]
theorem zero_orI {a : Int} (h : RG a) : orI 0 a = a := by rw [orI_comm, orI_zero h]
theorem orI_twice (a b : Int) : orI (orI a b) b = orI a b := by
  have e : I (orI a b) = I a ||| I b := (I_orI a b).symm
  show (I (orI a b) ||| I b).toInt = (I a ||| I b).toInt
  rw [e]
  congr 1
  exact b_ext (fun i hi => by rw [b_or, b_or, Bool.or_assoc, Bool.or_self])
theorem bitv_neg : bitv (-1) = 0 := by
  unfold bitv
  rw [if_neg (by omega)]
theorem cnt_congr {l l' : Int → Bool} : ∀ t : Nat, (∀ i : Nat, i < t → l i = l' i) → cnt l t = cnt l' t := by
  intro t
  induction t with
  | zero => intro _; rfl
  | succ t ih =>
    intro h
    unfold cnt
    rw [ih (fun i hi => h i (by omega)), h t (by omega)]
theorem stF_congr {l l' : Int → Bool} (b : Int) : ∀ t : Nat, (∀ i : Nat, i < t → l i = l' i) → stF l t b = stF l' t b := by
  intro t
  induction t with
  | zero => intro _; rfl
  | succ t ih =>
    intro h
    unfold stF
    rw [ih (fun i hi => h i (by omega)), h t (by omega), cnt_congr t (fun i hi => h i (by omega))]
theorem cmF_congr {S S' : FI} {nb : Nat} (q : Int) (h : ∀ t : Nat, t < nb → S t = S' t) : cmF S nb q = cmF S' nb q := by
  induction nb with
  | zero => rfl
  | succ t ih =>
    unfold cmF
    rw [ih (fun s hs => h s (by omega)), h t (by omega)]
theorem gF_no {op rb : FI} {n : Nat} {b : Int} (h0 : 0 ≤ b) (h1 : b < gnb op rb n) : decide (gF op rb n b = -1) = !(goB (op (gla op rb n b)) && decide (gla op rb n b + 1 < n)) := by
  have hl := gla_in h0 h1
  unfold gF
  by_cases h : goB (op (gla op rb n b)) = true ∧ gla op rb n b + 1 < n
  · have := gblk_in (op := op) (rb := rb) (n := n) (i := gla op rb n b + 1) (by omega) h.2
    rw [if_pos h, decide_eq_false (by omega), h.1, decide_eq_true h.2]
    rfl
  · rw [if_neg h, decide_eq_true rfl]
    by_cases hg : goB (op (gla op rb n b)) = true
    · rw [decide_eq_false (fun q => h ⟨hg, q⟩), Bool.and_false]
      rfl
    · rw [Bool.eq_false_iff.mpr hg, Bool.false_and]
      rfl
theorem gT_no {op rb : FI} {n : Nat} {b : Int} (hop : OPok op rb n) (h0 : 0 ≤ b) (h1 : b < gnb op rb n) : decide (gT op rb n b = -1) = !(jmB (op (gla op rb n b)) && decide (rb (gla op rb n b) < n)) := by
  have hl := gla_in h0 h1
  have ho := hop _ hl.1 hl.2
  unfold gT
  by_cases h : jmB (op (gla op rb n b)) = true ∧ rb (gla op rb n b) < n
  · have := gblk_in (op := op) (rb := rb) (n := n) (i := rb (gla op rb n b)) (ho.2.2.2 h.1).1 h.2
    rw [if_pos h, decide_eq_false (by omega), h.1, decide_eq_true h.2]
    rfl
  · rw [if_neg h, decide_eq_true rfl]
    by_cases hg : jmB (op (gla op rb n b)) = true
    · rw [decide_eq_false (fun q => h ⟨hg, q⟩), Bool.and_false]
      rfl
    · rw [Bool.eq_false_iff.mpr hg, Bool.false_and]
      rfl
theorem lfM_gS {op rb : FI} {n : Nat} {b : Int} (hop : OPok op rb n) (h0 : 0 ≤ b) (h1 : b < gnb op rb n) {bl : FI} (hbl : ∀ i, 0 ≤ i → i < (n : Int) → bl i = gblk op rb n i) : lfM bl n (gla op rb n b) (op (gla op rb n b)) (rb (gla op rb n b)) = gS op rb n b := by
  have hl := gla_in h0 h1
  have ho := hop _ hl.1 hl.2
  have inner : (if jmB (op (gla op rb n b)) = true then gtM bl n 0 (rb (gla op rb n b)) else 0) = bitv (gT op rb n b) := by
    unfold gT gtM
    by_cases hj : jmB (op (gla op rb n b)) = true
    · by_cases ht : rb (gla op rb n b) < n
      · rw [if_pos hj, if_pos ht, if_pos ⟨hj, ht⟩, zero_orI (bitv_RG _).1, hbl _ (ho.2.2.2 hj).1 ht]
      · rw [if_pos hj, if_neg ht, if_neg (fun q => ht q.2), bitv_neg]
    · rw [if_neg hj, if_neg (fun q => hj q.1), bitv_neg]
  unfold lfM
  rw [inner]
  unfold gS
  rw [orI_comm]
  unfold gF gtM
  by_cases hg : goB (op (gla op rb n b)) = true
  · by_cases ht : gla op rb n b + 1 < n
    · rw [if_pos hg, if_pos ht, if_pos ⟨hg, ht⟩, hbl _ (by omega) ht]
    · rw [if_pos hg, if_neg ht, if_neg (fun q => ht q.2), bitv_neg, orI_zero (bitv_RG _).1]
  · rw [if_neg hg, if_neg (fun q => hg q.1), bitv_neg, orI_zero (bitv_RG _).1]
theorem lfE_gE {op rb : FI} {n : Nat} {b : Int} (hop : OPok op rb n) (h0 : 0 ≤ b) (h1 : b < gnb op rb n) : lfE n (gla op rb n b) (op (gla op rb n b)) (rb (gla op rb n b)) = if gE op rb n b then 1 else 0 := by
  unfold gE
  rw [gF_no h0 h1, gT_no hop h0 h1]
  unfold lfE gtE
  by_cases h7 : op (gla op rb n b) = 7
  · rw [if_pos h7, decide_eq_true h7]
    simp
  · rw [if_neg h7, decide_eq_false h7]
    by_cases hF : gla op rb n b + 1 < n <;> by_cases hT : rb (gla op rb n b) < n <;> cases goB (op (gla op rb n b)) <;> cases jmB (op (gla op rb n b)) <;> simp [hF, hT]
theorem cm_pm {F T S : FI} {nb : Nat} {q : Int} (hq : 0 ≤ q ∧ q < 24) : (∀ t : Nat, t < nb → S t = orI (bitv (F t)) (bitv (T t))) → cmF S nb q = pmF F T nb q := by
  induction nb with
  | zero => intro _; rfl
  | succ t ih =>
    intro h
    have hp := pmF_RG F T t q
    unfold cmF pmF
    rw [ih (fun s hs => h s (by omega)), h t (by omega), tb_or, tb_bitv hq, tb_bitv hq]
    by_cases h1 : F t = q <;> by_cases h2 : T t = q
    · rw [decide_eq_true h1.symm, decide_eq_true h2.symm, if_pos h1, if_pos h2, orI_twice]; rfl
    · rw [decide_eq_true h1.symm, decide_eq_false (fun z => h2 z.symm), if_pos h1, if_neg h2]; rfl
    · rw [decide_eq_false (fun z => h1 z.symm), decide_eq_true h2.symm, if_neg h1, if_pos h2]; rfl
    · rw [decide_eq_false (fun z => h1 z.symm), decide_eq_false (fun z => h2 z.symm), if_neg h1, if_neg h2]
      exact orI_zero hp
