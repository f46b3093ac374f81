/-! leaves of the class -/
theorem s_has {Z : ZW} {J : Int64} {x : Int} (hx : RG x) (hs : 0 ≤ Z 4 0 ∧ Z 4 0 ≤ 24) : D 16 [.ref 3, .int (I x)] Z J (some (bI (decide (0 ≤ x ∧ x < Z 4 0)))) Z J := by
  unfold D Mz
  refine z_iload_n rfl rfl ?_
  refine z_if_lt rfl (by omega) (fun h1 => ?_) (fun h1 => ?_)
  · refine z_iconst rfl ?_
    first | exact z_bret0 rfl rfl ⟨bz0 (decide_eq_false (by omega)), rfl, rfl⟩ | exact z_bret1 rfl rfl ⟨bz1 (decide_eq_true (by omega)), rfl, rfl⟩
  · refine z_iload_n rfl rfl ?_
    refine z_aload_n rfl rfl ?_
    refine z_getI (bi := 0) rfl rfl rfl rfl ?_
    refine z_icmp_ge rfl (by omega) (by omega) (fun h9 => ?_) (fun h9 => ?_)
    · refine z_iconst rfl ?_
      first | exact z_bret0 rfl rfl ⟨bz0 (decide_eq_false (by omega)), rfl, rfl⟩ | exact z_bret1 rfl rfl ⟨bz1 (decide_eq_true (by omega)), rfl, rfl⟩
    · refine z_iconst rfl ?_
      refine z_goto rfl ?_
      first | exact z_bret0 rfl rfl ⟨bz0 (decide_eq_false (by omega)), rfl, rfl⟩ | exact z_bret1 rfl rfl ⟨bz1 (decide_eq_true (by omega)), rfl, rfl⟩
theorem s_ghas {Z : ZW} {J : Int64} {x : Int} (hx : RG x) (hs : 0 ≤ Z 14 0 ∧ Z 14 0 ≤ 24) : D 32 [.ref 13, .int (I x)] Z J (some (bI (decide (0 ≤ x ∧ x < Z 14 0)))) Z J := by
  unfold D Mz
  refine z_iload_n rfl rfl ?_
  refine z_if_lt rfl (by omega) (fun h1 => ?_) (fun h1 => ?_)
  · refine z_iconst rfl ?_
    first | exact z_bret0 rfl rfl ⟨bz0 (decide_eq_false (by omega)), rfl, rfl⟩ | exact z_bret1 rfl rfl ⟨bz1 (decide_eq_true (by omega)), rfl, rfl⟩
  · refine z_iload_n rfl rfl ?_
    refine z_aload_n rfl rfl ?_
    refine z_getI (bi := 0) rfl rfl rfl rfl ?_
    refine z_icmp_ge rfl (by omega) (by omega) (fun h9 => ?_) (fun h9 => ?_)
    · refine z_iconst rfl ?_
      first | exact z_bret0 rfl rfl ⟨bz0 (decide_eq_false (by omega)), rfl, rfl⟩ | exact z_bret1 rfl rfl ⟨bz1 (decide_eq_true (by omega)), rfl, rfl⟩
    · refine z_iconst rfl ?_
      refine z_goto rfl ?_
      first | exact z_bret0 rfl rfl ⟨bz0 (decide_eq_false (by omega)), rfl, rfl⟩ | exact z_bret1 rfl rfl ⟨bz1 (decide_eq_true (by omega)), rfl, rfl⟩
theorem s_bit {Z : ZW} {J : Int64} {x : Int} (hx : RG x) : D 24 [.int (I x)] Z J (some (.int (I (bitv x)))) Z J := by
  unfold D Mz
  refine z_iload_n rfl rfl ?_
  refine z_if_lt rfl (by omega) (fun h1 => ?_) (fun h1 => ?_)
  · refine z_iconst rfl ?_
    first | exact z_iret rfl rfl ⟨rfl, rfl, rfl⟩ | (exact z_iret rfl rfl ⟨by rw [bitv, if_neg (by omega)], rfl, rfl⟩)
  · refine z_iload_n rfl rfl ?_
    refine z_bipush rfl (by decide) ?_
    refine z_icmp_ge rfl (by omega) (by omega) (fun h7 => ?_) (fun h7 => ?_)
    · refine z_iconst rfl ?_
      first | exact z_iret rfl rfl ⟨rfl, rfl, rfl⟩ | (exact z_iret rfl rfl ⟨by rw [bitv, if_neg (by omega)], rfl, rfl⟩)
    · refine z_iconst rfl ?_
      refine z_iload_n rfl rfl ?_
      refine z_ishl rfl (bitv_shl (by omega)) ?_
      refine z_goto rfl ?_
      first | exact z_iret rfl rfl ⟨rfl, rfl, rfl⟩ | (exact z_iret rfl rfl ⟨by rw [bitv, if_neg (by omega)], rfl, rfl⟩)
theorem s_contains {Z : ZW} {J : Int64} {m x : Int} (hx : RG x) : D 27 [.int (I m), .int (I x)] Z J (some (bI (hbB m x))) Z J := by
  unfold D Mz
  refine z_iload_n rfl rfl ?_
  refine z_iload_n rfl rfl ?_
  refine z_callS1 rfl rfl rfl rfl (s_bit hx) ?_
  refine z_iand (v := (I m &&& I (bitv x)).toInt) rfl (I_of _).symm ?_
  rw [I_of]
  refine z_rif_eq rfl (fun h6 => ?_) (fun h6 => ?_)
  · refine z_iconst rfl ?_
    first | exact z_bret0 rfl rfl ⟨bz0 ((and_ne m x).mp h6), rfl, rfl⟩ | exact z_bret1 rfl rfl ⟨bz1 (by cases hb : hbB m x with | true => rfl | false => exact absurd ((and_ne m x).mpr hb) h6), rfl, rfl⟩
  · refine z_iconst rfl ?_
    refine z_goto rfl ?_
    first | exact z_bret0 rfl rfl ⟨bz0 ((and_ne m x).mp h6), rfl, rfl⟩ | exact z_bret1 rfl rfl ⟨bz1 (by cases hb : hbB m x with | true => rfl | false => exact absurd ((and_ne m x).mpr hb) h6), rfl, rfl⟩
theorem s_jumps {Z : ZW} {J : Int64} {x : Int} (hx : RG x) : D 25 [.int (I x)] Z J (some (bI (jmB x))) Z J := by
  unfold D Mz
  refine z_iload_n rfl rfl ?_
  refine z_iconst rfl ?_
  refine z_icmp_eq rfl (by omega) (by omega) (fun h2 => ?_) (fun h2 => ?_)
  · refine z_iconst rfl ?_
    refine z_goto rfl ?_
    first | exact z_bret0 rfl rfl ⟨bz0 (decide_eq_false (by omega)), rfl, rfl⟩ | exact z_bret1 rfl rfl ⟨bz1 (decide_eq_true (by omega)), rfl, rfl⟩
  · refine z_iload_n rfl rfl ?_
    refine z_iconst rfl ?_
    refine z_icmp_eq rfl (by omega) (by omega) (fun h7 => ?_) (fun h7 => ?_)
    · refine z_iconst rfl ?_
      refine z_goto rfl ?_
      first | exact z_bret0 rfl rfl ⟨bz0 (decide_eq_false (by omega)), rfl, rfl⟩ | exact z_bret1 rfl rfl ⟨bz1 (decide_eq_true (by omega)), rfl, rfl⟩
    · refine z_iload_n rfl rfl ?_
      refine z_bipush rfl (by decide) ?_
      refine z_icmp_ne rfl (by omega) (by omega) (fun h13 => ?_) (fun h13 => ?_)
      · refine z_iconst rfl ?_
        first | exact z_bret0 rfl rfl ⟨bz0 (decide_eq_false (by omega)), rfl, rfl⟩ | exact z_bret1 rfl rfl ⟨bz1 (decide_eq_true (by omega)), rfl, rfl⟩
      · refine z_iconst rfl ?_
        refine z_goto rfl ?_
        first | exact z_bret0 rfl rfl ⟨bz0 (decide_eq_false (by omega)), rfl, rfl⟩ | exact z_bret1 rfl rfl ⟨bz1 (decide_eq_true (by omega)), rfl, rfl⟩
theorem s_goesOn {Z : ZW} {J : Int64} {x : Int} (hx : RG x) : D 29 [.int (I x)] Z J (some (bI (goB x))) Z J := by
  unfold D Mz
  refine z_iload_n rfl rfl ?_
  refine z_iconst rfl ?_
  refine z_icmp_eq rfl (by omega) (by omega) (fun h2 => ?_) (fun h2 => ?_)
  · refine z_iconst rfl ?_
    first | exact z_bret0 rfl rfl ⟨bz0 (decide_eq_false (by omega)), rfl, rfl⟩ | exact z_bret1 rfl rfl ⟨bz1 (decide_eq_true (by omega)), rfl, rfl⟩
  · refine z_iload_n rfl rfl ?_
    refine z_bipush rfl (by decide) ?_
    refine z_icmp_eq rfl (by omega) (by omega) (fun h8 => ?_) (fun h8 => ?_)
    · refine z_iconst rfl ?_
      first | exact z_bret0 rfl rfl ⟨bz0 (decide_eq_false (by omega)), rfl, rfl⟩ | exact z_bret1 rfl rfl ⟨bz1 (decide_eq_true (by omega)), rfl, rfl⟩
    · refine z_iconst rfl ?_
      refine z_goto rfl ?_
      first | exact z_bret0 rfl rfl ⟨bz0 (decide_eq_false (by omega)), rfl, rfl⟩ | exact z_bret1 rfl rfl ⟨bz1 (decide_eq_true (by omega)), rfl, rfl⟩
/-- the block ends the program: the places 8.. of 14 -/
def enB (Z : ZW) (x : Int) : Bool := decide (I (Z 14 (8 + x)) ≠ 0)
theorem enB_of {Z : ZW} {x : Int} {c : Bool} (h : Z 14 (8 + x) = (if c then 1 else 0)) : enB Z x = c := by
  unfold enB
  rw [h]
  cases c <;> decide
theorem enB_congr {Z Z' : ZW} {x : Int} (h : Z' 14 (8 + x) = Z 14 (8 + x)) : enB Z' x = enB Z x := by
  unfold enB
  rw [h]
theorem s_canEnd {Z : ZW} {J : Int64} {x : Int} (hx : 0 ≤ x ∧ x < Z 14 0) (hs : 0 ≤ Z 14 0 ∧ Z 14 0 ≤ 24) : D 35 [.ref 13, .int (I x)] Z J (some (bI (enB Z x))) Z J := by
  unfold D Mz
  refine z_aload_n rfl rfl ?_
  refine z_iload_n rfl rfl ?_
  refine z_callV1 rfl rfl rfl rfl rfl rfl (s_ghas (by omega) hs) ?_
  refine z_ifb_eq rfl (fun h5 => ?_) (fun h5 => ?_)
  · refine z_iconst rfl ?_
    exact absurd hx (of_decide_eq_false h5)
  · refine z_aload_n rfl rfl ?_
    refine z_getR rfl rfl rfl rfl ?_
    refine z_iload_n rfl rfl ?_
    refine z_eald rfl (by omega) ?_
    refine z_rif_eq rfl (fun h14 => ?_) (fun h14 => ?_)
    · refine z_iconst rfl ?_
      exact z_bret0 rfl rfl ⟨bz0 (decide_eq_false (fun q => q h14)), rfl, rfl⟩
    · refine z_iconst rfl ?_
      refine z_goto rfl ?_
      exact z_bret1 rfl rfl ⟨bz1 (decide_eq_true h14), rfl, rfl⟩
theorem s_blockFrom {Z : ZW} {J : Int64} {x : Int} (hx : RG x) (hs : 0 ≤ Z 4 0 ∧ Z 4 0 ≤ 24) : D 30 [.ref 13, .ref 3, .int (I x)] Z J (some (.int (I (if 0 ≤ x ∧ x < Z 4 0 then Z 15 x else -1)))) Z J := by
  unfold D Mz
  refine z_aload_n rfl rfl ?_
  refine z_iload_n rfl rfl ?_
  refine z_callV1 rfl rfl rfl rfl rfl rfl (s_has hx hs) ?_
  refine z_ifb_eq rfl (fun h5 => ?_) (fun h5 => ?_)
  · refine z_iconst rfl ?_
    first | exact z_iret rfl rfl ⟨by rw [if_pos (of_decide_eq_true h5)], rfl, rfl⟩ | exact z_iret rfl rfl ⟨by rw [if_neg (of_decide_eq_false h5)], rfl, rfl⟩
  · refine z_aload_n rfl rfl ?_
    refine z_getR rfl rfl rfl rfl ?_
    refine z_iload_n rfl rfl ?_
    refine z_iald rfl rfl (by have := of_decide_eq_true h5; omega) ?_
    refine z_goto rfl ?_
    first | exact z_iret rfl rfl ⟨by rw [if_pos (of_decide_eq_true h5)], rfl, rfl⟩ | exact z_iret rfl rfl ⟨by rw [if_neg (of_decide_eq_false h5)], rfl, rfl⟩
theorem s_addPred {Z : ZW} {J : Int64} {q p : Int} (hq : RG q) (hp : RG p) (hs : 0 ≤ Z 14 0 ∧ Z 14 0 ≤ 24) : D 33 [.ref 13, .int (I q), .int (I p)] Z J none (if 0 ≤ q ∧ q < Z 14 0 then up Z 22 q (orI (Z 22 q) (bitv p)) else Z) J := by
  unfold D Mz
  refine z_aload_n rfl rfl ?_
  refine z_iload_n rfl rfl ?_
  refine z_callV1 rfl rfl rfl rfl rfl rfl (s_ghas hq hs) ?_
  refine z_ifb_eq rfl (fun h5 => ?_) (fun h5 => ?_)
  · first | exact z_vret rfl rfl ⟨rfl, by rw [if_pos (of_decide_eq_true h5)], rfl⟩ | exact z_vret rfl rfl ⟨rfl, by rw [if_neg (of_decide_eq_false h5)], rfl⟩
  · refine z_aload_n rfl rfl ?_
    refine z_getR rfl rfl rfl rfl ?_
    refine z_iload_n rfl rfl ?_
    refine z_dup2 rfl rfl rfl ?_
    refine z_iald rfl rfl (by have := of_decide_eq_true h5; omega) ?_
    refine z_iload_n rfl rfl ?_
    refine z_callS1 rfl rfl rfl rfl (s_bit hp) ?_
    refine z_ior rfl (I_orI _ _) ?_
    refine z_iast rfl rfl (by have := of_decide_eq_true h5; omega) ?_
    first | exact z_vret rfl rfl ⟨rfl, by rw [if_pos (of_decide_eq_true h5)], rfl⟩ | exact z_vret rfl rfl ⟨rfl, by rw [if_neg (of_decide_eq_false h5)], rfl⟩
theorem s_isJoined {Z : ZW} {J : Int64} {q p : Int} (hq : 0 ≤ q ∧ q < 24) (hp : 0 ≤ p ∧ p < Z 14 0) (hs : 0 ≤ Z 14 0 ∧ Z 14 0 ≤ 24) (r1 : RG (Z 19 p)) (r2 : RG (Z 22 q)) : D 36 [.ref 13, .int (I q), .int (I p)] Z J (some (bI (decide (q ≠ 0 ∧ q ≠ p ∧ enB Z p = false ∧ Z 19 p = bitv q ∧ Z 22 q = bitv p)))) Z J := by
  have b1 := (bitv_RG q).1
  have b2 := (bitv_RG p).1
  unfold D Mz
  refine z_iload_n rfl rfl ?_
  refine z_if_eq rfl (by omega) (fun h1 => ?_) (fun h1 => ?_)
  · refine z_iconst rfl ?_
    first | exact z_bret1 rfl rfl ⟨bz1 (decide_eq_true (by simp_all)), rfl, rfl⟩ | exact z_bret0 rfl rfl ⟨bz0 (decide_eq_false (by simp_all)), rfl, rfl⟩
  · refine z_iload_n rfl rfl ?_
    refine z_iload_n rfl rfl ?_
    refine z_icmp_eq rfl (by omega) (by omega) (fun h6 => ?_) (fun h6 => ?_)
    · refine z_iconst rfl ?_
      first | exact z_bret1 rfl rfl ⟨bz1 (decide_eq_true (by simp_all)), rfl, rfl⟩ | exact z_bret0 rfl rfl ⟨bz0 (decide_eq_false (by simp_all)), rfl, rfl⟩
    · refine z_aload_n rfl rfl ?_
      refine z_iload_n rfl rfl ?_
      refine z_callV1 rfl rfl rfl rfl rfl rfl (s_canEnd hp hs) ?_
      refine z_ifb_ne rfl (fun h14 => ?_) (fun h14 => ?_)
      · refine z_iconst rfl ?_
        first | exact z_bret1 rfl rfl ⟨bz1 (decide_eq_true (by simp_all)), rfl, rfl⟩ | exact z_bret0 rfl rfl ⟨bz0 (decide_eq_false (by simp_all)), rfl, rfl⟩
      · refine z_aload_n rfl rfl ?_
        refine z_getR rfl rfl rfl rfl ?_
        refine z_iload_n rfl rfl ?_
        refine z_iald rfl rfl (by omega) ?_
        refine z_iload_n rfl rfl ?_
        refine z_callS1 rfl rfl rfl rfl (s_bit (by omega)) ?_
        refine z_icmp_ne rfl (by omega) (by omega) (fun h27 => ?_) (fun h27 => ?_)
        · refine z_iconst rfl ?_
          first | exact z_bret1 rfl rfl ⟨bz1 (decide_eq_true (by simp_all)), rfl, rfl⟩ | exact z_bret0 rfl rfl ⟨bz0 (decide_eq_false (by simp_all)), rfl, rfl⟩
        · refine z_aload_n rfl rfl ?_
          refine z_getR rfl rfl rfl rfl ?_
          refine z_iload_n rfl rfl ?_
          refine z_iald rfl rfl (by omega) ?_
          refine z_iload_n rfl rfl ?_
          refine z_callS1 rfl rfl rfl rfl (s_bit (by omega)) ?_
          refine z_icmp_ne rfl (by omega) (by omega) (fun h40 => ?_) (fun h40 => ?_)
          · refine z_iconst rfl ?_
            first | exact z_bret1 rfl rfl ⟨bz1 (decide_eq_true (by simp_all)), rfl, rfl⟩ | exact z_bret0 rfl rfl ⟨bz0 (decide_eq_false (by simp_all)), rfl, rfl⟩
          · refine z_iconst rfl ?_
            refine z_goto rfl ?_
            first | exact z_bret1 rfl rfl ⟨bz1 (decide_eq_true (by simp_all)), rfl, rfl⟩ | exact z_bret0 rfl rfl ⟨bz0 (decide_eq_false (by simp_all)), rfl, rfl⟩
