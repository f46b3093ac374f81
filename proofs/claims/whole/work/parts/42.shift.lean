/-! one bit of a set, moved -/
theorem shr_amt : ∀ q : Nat, q < 24 → ((I (q : Int) &&& 31).toBitVec.smod 32).toNat = q := by decide +kernel
theorem shr_bit (x : Int32) {q : Nat} (h : q < 24) : bt (x >>> (I (q : Int) &&& 31)) 0 = bt x q := by
  show (x.toBitVec.sshiftRight ((I (q : Int) &&& 31).toBitVec.smod 32).toNat).getLsbD 0 = x.toBitVec.getLsbD q
  rw [shr_amt q h, BitVec.getLsbD_sshiftRight]
  simp only [Nat.add_zero]
  rw [if_pos (by omega)]
  simp
theorem one_tab : ∀ j : Nat, j < 32 → bt (1 : Int32) j = decide (j = 0) := by decide +kernel
theorem and_one (y : Int32) : y &&& 1 = I (if bt y 0 then 1 else 0) := by
  apply b_ext
  intro j hj
  rw [b_and, one_tab j hj]
  by_cases h0 : j = 0
  · rw [h0]
    cases bt y 0 with
    | true => decide
    | false => decide
  · rw [decide_eq_false h0, Bool.and_false]
    cases bt y 0 with
    | true => rw [show I (if true = true then 1 else 0) = (1 : Int32) from rfl, one_tab j hj, decide_eq_false h0]
    | false => rw [show I (if false = true then 1 else 0) = (0 : Int32) from rfl, b_0]
theorem zero_shl : ∀ t : Nat, t < 24 → I 0 <<< (I (t : Int) &&& 31) = I 0 := by decide +kernel
/-- the bit q of s, as an int -/
def tb1 (s q : Int) : Int := if tbI s q then 1 else 0
theorem shr_and {s q : Int} (hq : 0 ≤ q ∧ q < 24) {v : Int} (hv : I s >>> (I q &&& 31) = I v) : I v &&& I 1 = I (tb1 s q) := by
  obtain ⟨k, rfl⟩ : ∃ k : Nat, q = k := ⟨q.toNat, by omega⟩
  rw [← hv, show I 1 = (1 : Int32) from rfl, and_one, shr_bit _ (by omega)]
  rfl
theorem tb1_shl {s q t : Int} (ht : 0 ≤ t ∧ t < 24) : I (tb1 s q) <<< (I t &&& 31) = I (if tbI s q then bitv t else 0) := by
  unfold tb1
  cases tbI s q with
  | true => exact bitv_shl ht
  | false =>
    obtain ⟨k, rfl⟩ : ∃ k : Nat, t = k := ⟨t.toNat, by omega⟩
    exact zero_shl k (by omega)
