/-! the leaders of the class are those of the reference -/
theorem lm_bits {op ra rb : FI} {n : Nat} (hw : WFP op ra rb n) (hn : n ≤ 24) {x : Int} (hx : 0 ≤ x ∧ x < n) : ∀ t : Nat, t ≤ n → tbI (lm op rb t) x = (decide (x = 0 ∨ ((x - 1) < t ∧ 4 ≤ op (x - 1))) || anyT (tgF op rb) t x) := by
  intro t
  induction t with
  | zero =>
    intro _
    show tbI (bitv 0) x = (_ || false)
    rw [tb_bitv (by omega), Bool.or_false]
    exact decide_eq_decide.mpr ⟨fun q => Or.inl q, fun q => by rcases q with q | q <;> omega⟩
  | succ t ih =>
    intro ht
    have ih := ih (by omega)
    obtain ⟨a1, a2, a3, a4, a5⟩ := hw (t : Int) (by omega) (by omega)
    have ea : anyT (tgF op rb) (t + 1) x = (anyT (tgF op rb) t x || decide (tgF op rb t = x)) := rfl
    have el : lm op rb (t + 1) = (if jmB (op t) || decide (op t = 7) then orI (if jmB (op t) then orI (lm op rb t) (bitv (rb t)) else lm op rb t) (bitv (t + 1)) else (if jmB (op t) then orI (lm op rb t) (bitv (rb t)) else lm op rb t)) := rfl
    have key : decide (x = 0 ∨ (x - 1 < ((t + 1 : Nat) : Int) ∧ 4 ≤ op (x - 1))) = (decide (x = 0 ∨ (x - 1 < (t : Int) ∧ 4 ≤ op (x - 1))) || decide (x = (t : Int) + 1 ∧ 4 ≤ op t)) := by
      rw [← Bool.decide_or]
      refine decide_eq_decide.mpr ⟨fun q => ?_, fun q => ?_⟩
      · rcases q with q | ⟨q1, q2⟩
        · exact Or.inl (Or.inl q)
        · by_cases h : x - 1 = (t : Int)
          · rw [h] at q2; exact Or.inr ⟨by omega, q2⟩
          · exact Or.inl (Or.inr ⟨by omega, q2⟩)
      · rcases q with (q | ⟨q1, q2⟩) | ⟨q1, q2⟩
        · exact Or.inl q
        · exact Or.inr ⟨by omega, q2⟩
        · refine Or.inr ⟨by omega, ?_⟩
          rw [show x - 1 = (t : Int) by omega]; exact q2
    rw [ea, key, el]
    by_cases hj : jmB (op t) = true
    · have hjo := of_decide_eq_true hj
      rw [hj, Bool.true_or, if_pos rfl, if_pos rfl, tb_or, tb_or, ih, tb_bitv (by omega), tb_bitv (by omega)]
      have e1 : tgF op rb t = rb t := by unfold tgF; rw [if_pos hj]
      rw [e1]
      have d1 : decide (x = (t : Int) + 1 ∧ 4 ≤ op t) = decide (x = (t : Int) + 1) := decide_eq_decide.mpr ⟨fun q => q.1, fun q => ⟨q, by omega⟩⟩
      have d2 : decide (rb (t : Int) = x) = decide (x = rb (t : Int)) := decide_eq_decide.mpr ⟨Eq.symm, Eq.symm⟩
      rw [d1, d2]
      cases decide (x = 0 ∨ (x - 1 < (t : Int) ∧ 4 ≤ op (x - 1))) <;> cases anyT (tgF op rb) t x <;> cases decide (x = rb (t : Int)) <;> cases decide (x = (t : Int) + 1) <;> rfl
    · have hjf : jmB (op t) = false := by cases h : jmB (op t) with | true => exact absurd h hj | false => rfl
      have hjo := of_decide_eq_false hjf
      have e1 : tgF op rb t = 24 := by unfold tgF; rw [if_neg hj]
      rw [hjf, Bool.false_or, e1, decide_eq_false (show ¬ (24 : Int) = x by omega), Bool.or_false]
      by_cases h7 : op (t : Int) = 7
      · rw [decide_eq_true h7, if_pos rfl, if_neg (by decide), tb_or, ih, tb_bitv (by omega)]
        have d1 : decide (x = (t : Int) + 1 ∧ 4 ≤ op t) = decide (x = (t : Int) + 1) := decide_eq_decide.mpr ⟨fun q => q.1, fun q => ⟨q, by omega⟩⟩
        rw [d1]
        cases decide (x = 0 ∨ (x - 1 < (t : Int) ∧ 4 ≤ op (x - 1))) <;> cases anyT (tgF op rb) t x <;> cases decide (x = (t : Int) + 1) <;> rfl
      · rw [decide_eq_false h7, if_neg (by decide), if_neg (by decide), ih, decide_eq_false (show ¬ (x = (t : Int) + 1 ∧ 4 ≤ op t) by omega), Bool.or_false]
theorem ld_eq {op ra rb : FI} {n : Nat} (hw : WFP op ra rb n) (hn : n ≤ 24) {x : Int} (hx : 0 ≤ x ∧ x < n) : ldr op rb n x = mLd op rb n x := by
  show tbI (lm op rb n) x = _
  rw [lm_bits hw hn hx n (Nat.le_refl _)]
  unfold mLd
  congr 1
  exact decide_eq_decide.mpr ⟨fun q => by rcases q with q | q; exact Or.inl q; exact Or.inr q.2, fun q => by rcases q with q | q; exact Or.inl q; exact Or.inr ⟨by omega, q⟩⟩
