/-! bits and masks (bt, b_ext, b_or, b_and, b_big, b_0 begun from kit/laws/BITS.to-paste) -/
def bt (x : Int32) (i : Nat) : Bool := x.toBitVec.getLsbD i
theorem b_ext {x y : Int32} (h : ∀ i, i < 32 → bt x i = bt y i) : x = y := Int32.toBitVec_inj.mp (BitVec.eq_of_getLsbD_eq (fun i hi => h i hi))
theorem b_or (x y : Int32) (i : Nat) : bt (x ||| y) i = (bt x i || bt y i) := by unfold bt; rw [Int32.toBitVec_or, BitVec.getLsbD_or]
theorem b_and (x y : Int32) (i : Nat) : bt (x &&& y) i = (bt x i && bt y i) := by unfold bt; rw [Int32.toBitVec_and, BitVec.getLsbD_and]
theorem b_big {x : Int32} {i : Nat} (h : 32 ≤ i) : bt x i = false := BitVec.getLsbD_of_ge _ _ h
theorem b_0 (i : Nat) : bt 0 i = false := BitVec.getLsbD_zero
abbrev RG (x : Int) : Prop := -2147483648 ≤ x ∧ x ≤ 2147483647
abbrev bI (c : Bool) : Value := .int (I (if c then 1 else 0))
theorem bz0 {c : Bool} (h : c = false) : some (Value.int (I 0)) = some (.int (I (if c then 1 else 0))) := by rw [h]; rfl
theorem bz1 {c : Bool} (h : c = true) : some (Value.int (I 1)) = some (.int (I (if c then 1 else 0))) := by rw [h]; rfl
theorem RG_of (x : Int32) : RG x.toInt := by
  have h1 := Int32.le_toInt x
  have h2 := Int32.toInt_lt x
  unfold RG
  omega
def bitv (x : Int) : Int := if 0 ≤ x ∧ x < 24 then 2 ^ x.toNat else 0
def orI (a b : Int) : Int := (I a ||| I b).toInt
theorem I_orI (a b : Int) : I a ||| I b = I (orI a b) := (I_of _).symm
theorem orI_RG (a b : Int) : RG (orI a b) := RG_of _
def tbI (m x : Int) : Bool := bt (I m) x.toNat
theorem bitv_tab : ∀ n : Nat, n < 24 → (0 : Int) ≤ 2 ^ n ∧ (2 : Int) ^ n ≤ 8388608 ∧ I 1 <<< (I (n : Int) &&& 31) = I (2 ^ n) ∧ ∀ j, j < 32 → bt (I (2 ^ n)) j = decide (j = n) := by decide +kernel
theorem bitv_RG (x : Int) : RG (bitv x) ∧ 0 ≤ bitv x := by
  unfold bitv RG
  split
  · next h =>
    have := bitv_tab x.toNat (by omega)
    omega
  · omega
theorem bitv_shl {x : Int} (h : 0 ≤ x ∧ x < 24) : I 1 <<< (I x &&& 31) = I (bitv x) := by
  have := (bitv_tab x.toNat (by omega)).2.2.1
  rw [Int.toNat_of_nonneg h.1] at this
  rw [this, bitv, if_pos h]
theorem bt_bitv (x : Int) {j : Nat} (hj : j < 32) : bt (I (bitv x)) j = decide ((j : Int) = x ∧ j < 24) := by
  unfold bitv
  by_cases h : 0 ≤ x ∧ x < 24
  · rw [if_pos h, (bitv_tab x.toNat (by omega)).2.2.2 j hj]
    apply decide_eq_decide.mpr
    omega
  · rw [if_neg h, show I 0 = 0 from rfl, b_0]
    symm
    exact decide_eq_false (by omega)
theorem tb_bitv {x y : Int} (hx : 0 ≤ x ∧ x < 24) : tbI (bitv y) x = decide (x = y) := by
  unfold tbI
  rw [bt_bitv y (by omega)]
  apply decide_eq_decide.mpr
  omega
theorem tb_or (a b x : Int) : tbI (orI a b) x = (tbI a x || tbI b x) := by
  unfold tbI
  rw [← I_orI, b_or]
theorem tb_0 (x : Int) : tbI 0 x = false := b_0 _
theorem mask_ext {a b : Int} (ha : RG a) (hb : RG b) (h : ∀ j, j < 32 → bt (I a) j = bt (I b) j) : a = b := (I_eq ha hb).mp (b_ext h)
theorem and_ne (m x : Int) : (I m &&& I (bitv x) = 0) ↔ (decide (0 ≤ x ∧ x < 24) && tbI m x) = false := by
  constructor
  · intro h
    by_cases hx : 0 ≤ x ∧ x < 24
    · have h1 := congrArg (fun z => bt z x.toNat) h
      simp only [b_and, b_0] at h1
      rw [bt_bitv x (by omega), decide_eq_true (by omega : ((x.toNat : Nat) : Int) = x ∧ x.toNat < 24), Bool.and_true] at h1
      unfold tbI
      rw [h1, Bool.and_false]
    · rw [decide_eq_false hx, Bool.false_and]
  · intro h
    apply b_ext
    intro j hj
    rw [b_and, b_0, bt_bitv x hj]
    by_cases hx : (j : Int) = x ∧ j < 24
    · rw [decide_eq_true (by omega : 0 ≤ x ∧ x < 24), Bool.true_and] at h
      unfold tbI at h
      rw [show x.toNat = j by omega] at h
      rw [h, Bool.false_and]
    · rw [decide_eq_false hx, Bool.and_false]
def jmB (o : Int) : Bool := decide (o = 4 ∨ o = 5 ∨ o = 6)
def goB (o : Int) : Bool := decide (o ≠ 4 ∧ o ≠ 7)
def hbB (m x : Int) : Bool := decide (0 ≤ x ∧ x < 24) && tbI m x
