/-! the last instruction of a block, as the reference finds it -/
def lsF (l : Int → Bool) (n : Nat) (b : Int) : Int := if b = (cnt l n : Int) - 1 then (n : Int) - 1 else stF l n (b + 1) - 1
theorem ls_la {l : Int → Bool} (h0 : l 0 = true) : ∀ (t : Nat) (b : Int), 0 ≤ b → b < cnt l t → laF l t b = lsF l t b := by
  intro t
  induction t with
  | zero => intro b b0 b1; simp [cnt] at b1; omega
  | succ t ih =>
    intro b b0 b1
    have hc : cnt l (t + 1) = cnt l t + if l t then 1 else 0 := rfl
    have hs : stF l (t + 1) (b + 1) = if l t = true ∧ (cnt l t : Int) = b + 1 then (t : Int) else stF l t (b + 1) := rfl
    unfold laF lsF
    by_cases hb : (cnt l (t + 1) : Int) - 1 = b
    · rw [if_pos hb, if_pos hb.symm]
      omega
    · rw [if_neg hb, if_neg (fun q => hb q.symm), hs]
      by_cases hl : l t = true
      · rw [hl, if_pos rfl] at hc
        rw [ih b b0 (by omega)]
        unfold lsF
        by_cases hq : b = (cnt l t : Int) - 1
        · rw [if_pos hq, if_pos ⟨hl, by omega⟩]
        · rw [if_neg hq, if_neg (fun q => hq (by omega))]
      · rw [if_neg hl] at hc
        rw [ih b b0 (by omega)]
        unfold lsF
        rw [if_neg (by omega), if_neg (fun q => hl q.1)]
theorem lsF_in {l : Int → Bool} (h0 : l 0 = true) {t : Nat} {b : Int} (b0 : 0 ≤ b) (b1 : b < cnt l t) : 0 ≤ lsF l t b ∧ lsF l t b < t := by
  rw [← ls_la h0 t b b0 b1]
  exact laF_in h0 t b b0 b1
