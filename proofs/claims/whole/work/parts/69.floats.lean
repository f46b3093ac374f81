/-! floats from 1/4096 to 1 -/
def FB (m : Nat) (q : Int) : UInt32 := FP.Core.of32 (.fin false m q)
theorem fb_fits {m : Nat} {q : Int} (hm : 8388608 ≤ m ∧ m < 16777216) (hq : -100 ≤ q ∧ q ≤ 100) : FP.Core.fits FP.Core.b32 (.fin false m q) := by
  have e1 : FP.Core.b32.qmin = -149 := by decide
  have e2 : FP.Core.b32.qmax = 104 := by decide
  have e3 : FP.Core.b32.tails = 8388608 := by decide
  refine ⟨?_, ?_, ?_, Or.inr ?_⟩
  · show m < 2 ^ 24
    omega
  · rw [e1]; omega
  · rw [e2]; omega
  · rw [e3]; omega
theorem fb_val {m : Nat} {q : Int} (hm : 8388608 ≤ m ∧ m < 16777216) (hq : -100 ≤ q ∧ q ≤ 100) : FP.Core.val32 (FB m q) = .fin false m q := FP.Core.val32_of32 (fb_fits hm hq)
theorem enc_lt {c : Nat} {q : Int} (h : FP.Core.fits FP.Core.b32 (.fin false c q)) : FP.Core.encode FP.Core.b32 (.fin false c q) < 2139095040 := by
  have e1 : FP.Core.b32.qmin = -149 := by decide
  have e2 : FP.Core.b32.qmax = 104 := by decide
  have e3 : FP.Core.b32.tails = 8388608 := by decide
  have e4 : FP.Core.b32.exps = 256 := by decide
  obtain ⟨h1, h2, h3, h4⟩ := h
  have h1 : c < 2 ^ 24 := h1
  rw [e2] at h3
  unfold FP.Core.encode FP.Core.assemble
  simp only [e1, e3, e4, Bool.toNat_false]
  split <;> omega
theorem n32_of {r : UInt32} {c : Nat} {q : Int} (h : FP.Core.val32 r = .fin false c q) : vf_n32 r := by
  have hf := FP.Core.val32_fits r
  have e : FP.Core.of32 (FP.Core.val32 r) = r := FP.Core.of32_val32 (by rw [h]; intro z; cases z)
  rw [h] at hf e
  have hl := enc_lt hf
  have hr : r.toNat < 2139095040 := by
    rw [← e]
    unfold FP.Core.of32
    rw [UInt32.toNat_ofNat_of_lt' (Nat.lt_trans hl (show 2139095040 < 4294967296 by decide))]
    exact hl
  unfold vf_n32
  rw [UInt32.le_iff_toNat_le, UInt32.toNat_and]
  exact Nat.le_trans Nat.and_le_left (Nat.le_of_lt hr)
theorem fb_toNat {m : Nat} {q : Int} (hm : 8388608 ≤ m ∧ m < 16777216) (hq : -100 ≤ q ∧ q ≤ 100) : FB m q = UInt32.ofNat ((q + 150).toNat * 8388608 + (m - 8388608)) := by
  have e1 : FP.Core.b32.qmin = -149 := by decide
  have e3 : FP.Core.b32.tails = 8388608 := by decide
  have e4 : FP.Core.b32.exps = 256 := by decide
  unfold FB FP.Core.of32 FP.Core.encode FP.Core.assemble
  simp only [e1, e3, e4, Bool.toNat_false]
  rw [if_neg (by omega)]
  refine congrArg UInt32.ofNat ?_
  omega
theorem u_i32 (n : Nat) : (UInt32.ofNat n).toInt32 = I (n : Int) := by
  show (⟨⟨BitVec.ofNat 32 n⟩⟩ : Int32) = ⟨⟨BitVec.ofInt 32 (n : Int)⟩⟩
  rw [BitVec.ofInt_natCast]
/-- whole numbers below 2^24, at an exponent, are data -/
theorem rx {k : Nat} {e : Int} (hk : k < 16777216) (he : -100 ≤ e ∧ e ≤ 0) : ∃ j : Nat, FP.Core.round FP.Core.b32 (.fin false k e) = .fin false (k * 2 ^ j) (e - j) := by
  have e1 : FP.Core.b32.qmin = -149 := by decide
  by_cases h0 : k = 0
  · subst h0
    refine ⟨(e + 149).toNat, ?_⟩
    show FP.Core.roundRatio FP.Core.b32 false 0 1 e = _
    unfold FP.Core.roundRatio
    rw [if_pos rfl, e1, Nat.zero_mul, show e - ((e + 149).toNat : Nat) = -149 by omega]
  · have a1 : 2 ^ k.log2 ≤ k := Nat.log2_self_le h0
    have a2 : k < 2 ^ (k.log2 + 1) := Nat.lt_log2_self
    have hl : k.log2 ≤ 23 := by
      refine Classical.byContradiction fun z => ?_
      have : 2 ^ 24 ≤ 2 ^ k.log2 := Nat.pow_le_pow_right (by decide) (by omega)
      omega
    have hp : 2 ^ k.log2 * 2 ^ (23 - k.log2) = 8388608 := by
      rw [← Nat.pow_add, show k.log2 + (23 - k.log2) = 23 by omega]
    have hp2 : 2 ^ (k.log2 + 1) * 2 ^ (23 - k.log2) = 16777216 := by
      rw [← Nat.pow_add, show k.log2 + 1 + (23 - k.log2) = 24 by omega]
    have l1 : 8388608 ≤ k * 2 ^ (23 - k.log2) := by rw [← hp]; exact Nat.mul_le_mul_right _ a1
    have l2 : k * 2 ^ (23 - k.log2) < 16777216 := by rw [← hp2]; exact Nat.mul_lt_mul_of_pos_right a2 (Nat.two_pow_pos _)
    refine ⟨23 - k.log2, ?_⟩
    refine FP.Core.roundRatio_exact FP.Core.good_b32 (by decide) ?_ ?_
    · have e2 : FP.Core.b32.qmax = 104 := by decide
      have e3 : FP.Core.b32.tails = 8388608 := by decide
      refine ⟨?_, ?_, ?_, Or.inr ?_⟩
      · show k * 2 ^ (23 - k.log2) < 2 ^ 24
        omega
      · rw [e1]; omega
      · rw [e2]; omega
      · rw [e3]; exact l1
    · rw [show (e - (e - ((23 - k.log2 : Nat) : Int))).toNat = 23 - k.log2 by omega, show (e - ((23 - k.log2 : Nat) : Int) - e).toNat = 0 by omega]
      simp
theorem i2f_val {c : Int} (hc : 0 ≤ c ∧ c < 16777216) : ∃ j : Nat, FP.Core.val32 (FP.i2f (I c)) = .fin false (c.toNat * 2 ^ j) (-(j : Int)) := by
  obtain ⟨j, hj⟩ := rx (k := c.toNat) (e := 0) (by omega) (by omega)
  refine ⟨j, ?_⟩
  show FP.Core.val32 (FP.Core.i2f (I c)) = _
  rw [FP.Core.val32_i2f, I_int (by omega) (by omega)]
  unfold FP.Core.ofInt
  rw [decide_eq_false (by omega), show c.natAbs = c.toNat by omega, hj, show (0 : Int) - (j : Int) = -(j : Int) by omega]
theorem fdiv_val {c s : Int} (hc : 1 ≤ c ∧ c ≤ 3000) (hs : 1 ≤ s ∧ s ≤ 3000) : FP.Core.val32 (FP.fdiv (FP.i2f (I c)) (FP.i2f (I s))) = FP.Core.roundRatio FP.Core.b32 false c.toNat s.toNat 0 := by
  obtain ⟨j1, h1⟩ := i2f_val (c := c) (by omega)
  obtain ⟨j2, h2⟩ := i2f_val (c := s) (by omega)
  show FP.Core.val32 (FP.Core.fdiv _ _) = _
  rw [FP.Core.val32_fdiv, h1, h2]
  have hp : 0 < s.toNat * 2 ^ j2 := Nat.mul_pos (by omega) (Nat.two_pow_pos _)
  show (if s.toNat * 2 ^ j2 = 0 then (if c.toNat * 2 ^ j1 = 0 then FP.Core.Datum.nan else .inf (false != false)) else FP.Core.roundRatio FP.Core.b32 (false != false) (c.toNat * 2 ^ j1) (s.toNat * 2 ^ j2) (-(j1 : Int) - -(j2 : Int))) = _
  rw [if_neg (by omega)]
  refine FP.Core.roundRatio_congr hp (by omega) ?_
  rw [show (-(j1 : Int) - -(j2 : Int) - 0).toNat = j2 - j1 by omega, show (0 - (-(j1 : Int) - -(j2 : Int))).toNat = j1 - j2 by omega]
  have e : 2 ^ j1 * 2 ^ (j2 - j1) = 2 ^ j2 * 2 ^ (j1 - j2) := by
    rw [← Nat.pow_add, ← Nat.pow_add, show j1 + (j2 - j1) = j2 + (j1 - j2) by omega]
  calc c.toNat * 2 ^ j1 * s.toNat * 2 ^ (j2 - j1) = c.toNat * s.toNat * (2 ^ j1 * 2 ^ (j2 - j1)) := by ac_rfl
    _ = c.toNat * s.toNat * (2 ^ j2 * 2 ^ (j1 - j2)) := by rw [e]
    _ = c.toNat * (s.toNat * 2 ^ j2) * 2 ^ (j1 - j2) := by ac_rfl
theorem ratio_val {c s : Nat} (hc : 1 ≤ c ∧ c ≤ s) (hs : s ≤ 3000) : ∃ (m : Nat) (q : Int), FP.Core.roundRatio FP.Core.b32 false c s 0 = .fin false m q ∧ (8388608 ≤ m ∧ m < 16777216) ∧ -35 ≤ q ∧ q ≤ -23 := by
  have e1 : FP.Core.b32.qmin = -149 := by decide
  have e2 : FP.Core.b32.qmax = 104 := by decide
  have e3 : FP.Core.b32.tails = 8388608 := by decide
  have ep : FP.Core.b32.p = 24 := rfl
  obtain ⟨l1, l2⟩ := FP.Core.leading_spec (A := c) (B := s) (by omega) (by omega)
  obtain ⟨L, eL⟩ : ∃ L, L = FP.Core.leading c s := ⟨_, rfl⟩
  rw [← eL] at l1 l2
  have u1 : L < 1 := FP.Core.lt_of_below l1 (by show c * 1 < s * 2; omega)
  have u2 : -12 < L + 1 := FP.Core.lt_of_below (by show ¬ c * 4096 < s * 1; omega) l2
  have eq : FP.Core.quantum FP.Core.b32 c s 0 = L - 23 := by
    unfold FP.Core.quantum
    rw [e1, ep, ← eL]
    omega
  unfold FP.Core.roundRatio
  rw [if_neg (by omega)]
  unfold FP.Core.roundAt
  have n1 := FP.Core.nearest_units_le (f := FP.Core.b32) (A := c) (B := s) (by omega) (by omega) 0
  have n2 : 8388608 ≤ FP.Core.nearest (FP.Core.unitsNum c 0 (L - 23)) (FP.Core.unitsDen s 0 (L - 23)) := by
    refine FP.Core.nearest_ge (FP.Core.unitsDen_pos (by omega) _ _) ?_
    refine Nat.le_of_not_lt fun z => l1 ?_
    have := (FP.Core.units_below c s 0 (L - 23) 23).mp z
    rw [show L - 23 - 0 + ((23 : Nat) : Int) = L by omega] at this
    exact this
  rw [eq] at n1 ⊢
  have n1 : FP.Core.nearest (FP.Core.unitsNum c 0 (L - 23)) (FP.Core.unitsDen s 0 (L - 23)) ≤ 16777216 := n1
  by_cases hL : L = 0
  · have hcs : c = s := by
      rw [hL] at l1
      have l1 : ¬ c * 1 < s * 1 := l1
      omega
    have en : FP.Core.nearest (FP.Core.unitsNum c 0 (L - 23)) (FP.Core.unitsDen s 0 (L - 23)) = 8388608 := by
      rw [hL, hcs]
      show FP.Core.nearest (s * 2 ^ 23) (s * 2 ^ 0) = _
      rw [Nat.pow_zero, Nat.mul_one, Nat.mul_comm]
      exact FP.Core.nearest_exact _ (by omega)
    rw [en]
    refine ⟨8388608, L - 23, ?_, by omega, by omega, by omega⟩
    unfold FP.Core.settle FP.Core.bound
    rw [if_pos (by rw [ep]; decide), if_pos (by rw [e2]; omega)]
  · generalize FP.Core.nearest (FP.Core.unitsNum c 0 (L - 23)) (FP.Core.unitsDen s 0 (L - 23)) = mm at n1 n2 ⊢
    unfold FP.Core.settle FP.Core.bound
    rw [ep, e2, e3]
    by_cases hm : mm < 2 ^ 24
    · rw [if_pos hm, if_pos (by omega)]
      exact ⟨mm, L - 23, rfl, by omega, by omega, by omega⟩
    · rw [if_neg hm, if_pos (by omega)]
      exact ⟨8388608, L - 23 + 1, rfl, by omega, by omega, by omega⟩
theorem fb_twice {m : Nat} {q : Int} (hm : 8388608 ≤ m ∧ m < 16777216) (hq : -50 ≤ q ∧ q ≤ -24) : FP.fmul (FB m q) FP.fconst2 = FB m (q + 1) := by
  have v2 : FP.Core.val32 FP.fconst2 = .fin false 8388608 (-22) := by decide +kernel
  have v1 := fb_val hm (q := q) (by omega)
  have v3 := fb_val hm (q := q + 1) (by omega)
  have e : FP.Core.val32 (FP.Core.fmul (FB m q) FP.fconst2) = .fin false m (q + 1) := by
    rw [FP.Core.val32_fmul, v1, v2]
    show FP.Core.roundRatio FP.Core.b32 false (m * 8388608) 1 (q + -22) = _
    refine FP.Core.roundRatio_exact FP.Core.good_b32 (by decide) (fb_fits hm (by omega)) ?_
    rw [show (q + -22 - (q + 1)).toNat = 0 by omega, show (q + 1 - (q + -22)).toNat = 23 by omega]
    simp
  exact FP.Core.val32_inj (by rw [e]; intro z; cases z) (e.trans v3.symm)
theorem cmp_lt {a b : Int} (h : a < b) : compare a b = .lt := by
  show (if a < b then Ordering.lt else if a = b then Ordering.eq else Ordering.gt) = _
  rw [if_pos h]
theorem cmp_eq {a b : Int} (h : a = b) : compare a b = .eq := by
  show (if a < b then Ordering.lt else if a = b then Ordering.eq else Ordering.gt) = _
  rw [if_neg (by omega), if_pos h]
theorem cmp_gt {a b : Int} (h : b < a) : compare a b = .gt := by
  show (if a < b then Ordering.lt else if a = b then Ordering.eq else Ordering.gt) = _
  rw [if_neg (by omega), if_neg (by omega)]
theorem fb_lt {m : Nat} {q : Int} (hm : 8388608 ≤ m ∧ m < 16777216) (hq : -50 ≤ q ∧ q ≤ -24) : FP.fcmp (FB m q) FP.fconst1 = some .lt := by
  have v1 := fb_val hm (q := q) (by omega)
  have v2 : FP.Core.decode FP.Core.b32 FP.fconst1.toNat = .fin false 8388608 (-23) := by decide +kernel
  show FP.Core.order (FP.Core.val32 (FB m q)) (FP.Core.decode FP.Core.b32 FP.fconst1.toNat) = _
  rw [v1, v2]
  show some (compare (((m * 2 ^ (q - min q (-23)).toNat : Nat)) : Int) (((8388608 * 2 ^ (-23 - min q (-23)).toNat : Nat)) : Int)) = _
  rw [show min q (-23) = q by omega, show (q - q).toNat = 0 by omega, Nat.pow_zero, Nat.mul_one]
  have hp : 2 ≤ 2 ^ (-23 - q).toNat := by
    have := Nat.pow_le_pow_right (show 0 < 2 by decide) (show 1 ≤ (-23 - q).toNat by omega)
    omega
  have : 8388608 * 2 ≤ 8388608 * 2 ^ (-23 - q).toNat := Nat.mul_le_mul_left _ hp
  generalize 8388608 * 2 ^ (-23 - q).toNat = w at this
  exact congrArg some (cmp_lt (by omega))
theorem fb_ge {m : Nat} (hm : 8388608 ≤ m ∧ m < 16777216) : FP.fcmp (FB m (-23)) FP.fconst1 = some .eq ∨ FP.fcmp (FB m (-23)) FP.fconst1 = some .gt := by
  have v1 := fb_val hm (q := -23) (by omega)
  have v2 : FP.Core.decode FP.Core.b32 FP.fconst1.toNat = .fin false 8388608 (-23) := by decide +kernel
  have e : FP.fcmp (FB m (-23)) FP.fconst1 = some (compare (m : Int) 8388608) := by
    show FP.Core.order (FP.Core.val32 (FB m (-23))) (FP.Core.decode FP.Core.b32 FP.fconst1.toNat) = _
    rw [v1, v2]
    show some (compare (((m * 2 ^ 0 : Nat)) : Int) (((8388608 * 2 ^ 0 : Nat)) : Int)) = _
    rw [Nat.pow_zero, Nat.mul_one, Nat.mul_one]
    rfl
  rw [e]
  by_cases h : (m : Int) = 8388608
  · exact Or.inl (congrArg some (cmp_eq h))
  · exact Or.inr (congrArg some (cmp_gt (by omega)))
theorem fb_self {m : Nat} {q : Int} (hm : 8388608 ≤ m ∧ m < 16777216) (hq : -50 ≤ q ∧ q ≤ -23) : FP.fcmp (FB m q) (FB m q) = some .eq := by
  have v1 := fb_val hm (q := q) (by omega)
  show FP.Core.order (FP.Core.val32 (FB m q)) (FP.Core.val32 (FB m q)) = _
  rw [v1]
  exact congrArg some (cmp_eq rfl)
/-- the fraction: behind fsub and fmul -/
theorem fb_frac {m : Nat} (hm : 8388608 ≤ m ∧ m < 16777216) : vf_n32 (FP.fsub (FB m (-23)) FP.fconst1) ∧ vf_n32 (FP.fmul (FP.fsub (FB m (-23)) FP.fconst1) 1258291200) ∧ FP.f2i (FP.fmul (FP.fsub (FB m (-23)) FP.fconst1) 1258291200) = I ((m - 8388608 : Nat) : Int) := by
  have v1 := fb_val hm (q := -23) (by omega)
  have v2 : FP.Core.val32 FP.fconst1 = .fin false 8388608 (-23) := by decide +kernel
  have v3 : FP.Core.val32 1258291200 = .fin false 8388608 0 := by decide +kernel
  obtain ⟨k, ek⟩ : ∃ k, k = m - 8388608 := ⟨_, rfl⟩
  have hs : FP.Core.val32 (FP.fsub (FB m (-23)) FP.fconst1) = FP.Core.round FP.Core.b32 (.fin false k (-23)) := by
    show FP.Core.val32 (FP.Core.fsub _ _) = _
    rw [FP.Core.val32_fsub, v1, v2]
    congr 1
    have hu : FP.Core.sumUnits false m (-23) true 8388608 (-23) (-23) = (k : Int) := by
      show ((m * 2 ^ 0 : Nat) : Int) + -((8388608 * 2 ^ 0 : Nat) : Int) = _
      rw [Nat.pow_zero, Nat.mul_one]
      omega
    show FP.Core.Datum.fin (FP.Core.sumSign false true (FP.Core.sumUnits false m (-23) true 8388608 (-23) (-23))) (FP.Core.sumUnits false m (-23) true 8388608 (-23) (-23)).natAbs (-23) = _
    rw [hu]
    have e1 : FP.Core.sumSign false true (k : Int) = false := by
      unfold FP.Core.sumSign
      split
      · rfl
      · exact decide_eq_false (by omega)
    rw [e1, Int.natAbs_natCast]
  obtain ⟨j, hj⟩ := rx (k := k) (e := -23) (by omega) (by omega)
  rw [hj] at hs
  have hp : FP.Core.val32 (FP.fmul (FP.fsub (FB m (-23)) FP.fconst1) 1258291200) = FP.Core.round FP.Core.b32 (.fin false k 0) := by
    show FP.Core.val32 (FP.Core.fmul _ _) = _
    rw [FP.Core.val32_fmul, hs, v3]
    show FP.Core.roundRatio FP.Core.b32 false (k * 2 ^ j * 8388608) 1 (-23 - (j : Int) + 0) = FP.Core.roundRatio FP.Core.b32 false k 1 0
    refine FP.Core.roundRatio_congr (by decide) (by decide) ?_
    rw [show (-23 - (j : Int) + 0 - 0).toNat = 0 by omega, show (0 - (-23 - (j : Int) + 0)).toNat = j + 23 by omega, Nat.pow_add]
    simp
    ac_rfl
  obtain ⟨i, hi⟩ := rx (k := k) (e := 0) (by omega) (by omega)
  rw [hi] at hp
  refine ⟨n32_of hs, n32_of hp, ?_⟩
  show FP.Core.toI (FP.Core.val32 (FP.fmul (FP.fsub (FB m (-23)) FP.fconst1) 1258291200)) = _
  rw [hp]
  show Int32.ofInt (max (-2147483648) (min 2147483647 (((k * 2 ^ i * 2 ^ ((0 : Int) - (i : Int)).toNat / 2 ^ (-((0 : Int) - (i : Int))).toNat : Nat)) : Int))) = _
  rw [show ((0 : Int) - (i : Int)).toNat = 0 by omega, show (-((0 : Int) - (i : Int))).toNat = i by omega, Nat.pow_zero, Nat.mul_one, Nat.mul_div_cancel _ (Nat.two_pow_pos i), ← ek, show max (-2147483648) (min 2147483647 (k : Int)) = (k : Int) by omega]
