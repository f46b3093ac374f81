/-! the class: what a caller sees, the short ones -/
theorem s_isErr {Z : ZW} {J : Int64} {x : Int} (hx : RG x) : D 65 [.int (I x)] Z J (some (bI (decide (-4 ≤ x ∧ x ≤ -2)))) Z J := by
  unfold D Mz
  refine z_iload_n rfl rfl ?_
  refine z_bipush rfl (by decide) ?_
  refine z_icmp_lt rfl (by omega) (by omega) (fun h3 => ?_) (fun h3 => ?_)
  · refine z_iconst rfl ?_
    first | exact z_bret0 rfl rfl ⟨bz0 (decide_eq_false (by omega)), rfl, rfl⟩ | exact z_bret1 rfl rfl ⟨bz1 (decide_eq_true (by omega)), rfl, rfl⟩
  · refine z_iload_n rfl rfl ?_
    refine z_bipush rfl (by decide) ?_
    refine z_icmp_gt rfl (by omega) (by omega) (fun h9 => ?_) (fun h9 => ?_)
    · refine z_iconst rfl ?_
      first | exact z_bret0 rfl rfl ⟨bz0 (decide_eq_false (by omega)), rfl, rfl⟩ | exact z_bret1 rfl rfl ⟨bz1 (decide_eq_true (by omega)), rfl, rfl⟩
    · refine z_iconst rfl ?_
      refine z_goto rfl ?_
      first | exact z_bret0 rfl rfl ⟨bz0 (decide_eq_false (by omega)), rfl, rfl⟩ | exact z_bret1 rfl rfl ⟨bz1 (decide_eq_true (by omega)), rfl, rfl⟩
def rf (Z : ZW) (x : Int) : ZW := up Z 63 (-2 - x) (Z 63 (-2 - x) + 1)
theorem s_refuse {Z : ZW} {J : Int64} {x : Int} (hx : -4 ≤ x ∧ x ≤ -2) : D 66 [.ref 0, .int (I x)] Z J (some (.int (I (x)))) (rf Z x) J := by
  unfold D Mz
  refine z_iload_n rfl rfl ?_
  refine z_callS1 rfl rfl rfl rfl (s_isErr (by omega)) ?_
  refine z_ifb_eq rfl (fun h4 => ?_) (fun h4 => ?_)
  · exact absurd (of_decide_eq_false h4) (fun q => q hx)
  · refine z_aload_n rfl rfl ?_
    refine z_getR rfl rfl rfl rfl ?_
    refine z_bipush rfl (by decide) ?_
    refine z_iload_n rfl rfl ?_
    refine z_isub rfl ?_
    refine z_dup2 rfl rfl rfl ?_
    refine z_iald rfl rfl (by omega) ?_
    refine z_iconst rfl ?_
    refine z_iadd rfl ?_
    refine z_iast rfl rfl (by omega) ?_
    refine z_iload_n rfl rfl ?_
    exact z_iret rfl rfl ⟨rfl, rfl, rfl⟩
theorem s_xadd {Z : ZW} {J : Int64} {x : Int} (hl : 0 ≤ Z 1 0 ∧ Z 1 0 ≤ 150) : D 63 [.ref 1, .int (I x)] Z J (some (bI (decide (Z 1 0 < 150)))) (if Z 1 0 < 150 then up (up Z 2 (Z 1 0) x) 1 0 (Z 1 0 + 1) else Z) J := by
  unfold D Mz
  refine z_aload_n rfl rfl ?_
  refine z_getI (bi := 0) rfl rfl rfl rfl ?_
  refine z_if_lt rfl (by omega) (fun h4 => ?_) (fun h4 => ?_)
  · refine z_iconst rfl ?_
    exfalso; omega
  · refine z_aload_n rfl rfl ?_
    refine z_getI (bi := 0) rfl rfl rfl rfl ?_
    refine z_aload_n rfl rfl ?_
    refine z_getR rfl rfl rfl rfl ?_
    refine z_alen (ni := 150) rfl rfl rfl ?_
    refine z_icmp_lt rfl (by omega) (by omega) (fun h16 => ?_) (fun h16 => ?_)
    · refine z_aload_n rfl rfl ?_
      refine z_getR rfl rfl rfl rfl ?_
      refine z_aload_n rfl rfl ?_
      refine z_getI (bi := 0) rfl rfl rfl rfl ?_
      refine z_iload_n rfl rfl ?_
      refine z_iast rfl rfl (by omega) ?_
      refine z_aload_n rfl rfl ?_
      refine z_dup rfl rfl ?_
      refine z_getI (bi := 0) rfl rfl rfl rfl ?_
      rw [up_ne (by decide)]
      refine z_iconst rfl ?_
      refine z_iadd rfl ?_
      refine z_putI (bi := 0) rfl rfl rfl rfl rfl ?_
      refine z_iconst rfl ?_
      exact z_bret1 rfl rfl ⟨bz1 (decide_eq_true (by omega)), by rw [if_pos (by omega)], rfl⟩
    · refine z_iconst rfl ?_
      exact z_bret0 rfl rfl ⟨bz0 (decide_eq_false (by omega)), by rw [if_neg (by omega)], rfl⟩
theorem s_append {Z : ZW} {J : Int64} {x : Int} (hx : RG x) (hl : 0 ≤ Z 1 0 ∧ Z 1 0 ≤ 150) : D 67 [.ref 0, .int (I x)] Z J (some (.int (I (if 0 ≤ x ∧ x ≤ 127 then (if Z 1 0 < 150 then Z 1 0 + 1 else -3) else -2)))) (if 0 ≤ x ∧ x ≤ 127 then (if Z 1 0 < 150 then up (up Z 2 (Z 1 0) x) 1 0 (Z 1 0 + 1) else rf Z (-3)) else rf Z (-2)) J := by
  unfold D Mz
  refine z_iload_n rfl rfl ?_
  refine z_if_lt rfl (by omega) (fun h1 => ?_) (fun h1 => ?_)
  · refine z_aload_n rfl rfl ?_
    refine z_bipush rfl (by decide) ?_
    refine z_callV1 rfl rfl rfl rfl rfl rfl (s_refuse (by omega)) ?_
    refine z_iret rfl rfl ⟨?_, ?_, rfl⟩
    · rw [if_neg (by omega)]
    · rw [if_neg (by omega)]
  · refine z_iload_n rfl rfl ?_
    refine z_bipush rfl (by decide) ?_
    refine z_icmp_le rfl (by omega) (by omega) (fun h7 => ?_) (fun h7 => ?_)
    · refine z_aload_n rfl rfl ?_
      refine z_getR rfl rfl rfl rfl ?_
      refine z_iload_n rfl rfl ?_
      refine z_callV1 rfl rfl rfl rfl rfl rfl (s_xadd hl) ?_
      refine z_ifb_ne rfl (fun h25 => ?_) (fun h25 => ?_)
      · have hlt := of_decide_eq_true h25
        rw [if_pos hlt]
        refine z_aload_n rfl rfl ?_
        refine z_getR rfl rfl rfl rfl ?_
        refine z_getI (bi := 0) rfl rfl rfl rfl ?_
        rw [up_eq]
        refine z_iret rfl rfl ⟨?_, ?_, rfl⟩
        · rw [if_pos (by omega), if_pos hlt]
        · rw [if_pos (by omega), if_pos hlt]
      · have hlt := of_decide_eq_false h25
        rw [if_neg hlt]
        refine z_aload_n rfl rfl ?_
        refine z_bipush rfl (by decide) ?_
        refine z_callV1 rfl rfl rfl rfl rfl rfl (s_refuse (by omega)) ?_
        refine z_iret rfl rfl ⟨?_, ?_, rfl⟩
        · rw [if_pos (by omega), if_neg hlt]
        · rw [if_pos (by omega), if_neg hlt]
    · refine z_aload_n rfl rfl ?_
      refine z_bipush rfl (by decide) ?_
      refine z_callV1 rfl rfl rfl rfl rfl rfl (s_refuse (by omega)) ?_
      refine z_iret rfl rfl ⟨?_, ?_, rfl⟩
      · rw [if_neg (by omega)]
      · rw [if_neg (by omega)]
theorem s_clearText {Z : ZW} {J : Int64} : D 68 [.ref 0] Z J (some (.int (I (Z 1 0)))) (up Z 1 0 0) J := by
  unfold D Mz
  refine z_aload_n rfl rfl ?_
  refine z_getR rfl rfl rfl rfl ?_
  refine z_getI (bi := 0) rfl rfl rfl rfl ?_
  refine z_istore_n rfl rfl rfl ?_
  refine z_aload_n rfl rfl ?_
  refine z_getR rfl rfl rfl rfl ?_
  refine z_iconst rfl ?_
  refine z_putI (bi := 0) rfl rfl rfl rfl rfl ?_
  refine z_iload_n rfl rfl ?_
  exact z_iret rfl rfl ⟨rfl, rfl, rfl⟩
theorem s_opcode {Z : ZW} {J : Int64} {x : Int} (hx : RG x) (hs : 0 ≤ Z 4 0 ∧ Z 4 0 ≤ 24) : D 72 [.ref 0, .int (I x)] Z J (some (.int (I (if 0 ≤ x ∧ x < Z 4 0 then Z 5 x else -2)))) (if 0 ≤ x ∧ x < Z 4 0 then Z else rf Z (-2)) J := by
  unfold D Mz
  refine z_aload_n rfl rfl ?_
  refine z_getR rfl rfl rfl rfl ?_
  refine z_iload_n rfl rfl ?_
  refine z_callV1 rfl rfl rfl rfl rfl rfl (s_has hx hs) ?_
  refine z_ifb_eq rfl (fun h8 => ?_) (fun h8 => ?_)
  · refine z_aload_n rfl rfl ?_
    refine z_bipush rfl (by decide) ?_
    refine z_callV1 rfl rfl rfl rfl rfl rfl (s_refuse (by omega)) ?_
    have hno := of_decide_eq_false h8
    refine z_iret rfl rfl ⟨?_, ?_, rfl⟩
    · rw [if_neg hno]
    · rw [if_neg hno]
  · have hin := of_decide_eq_true h8
    refine z_aload_n rfl rfl ?_
    refine z_getR rfl rfl rfl rfl ?_
    refine z_getR rfl rfl rfl rfl ?_
    refine z_iload_n rfl rfl ?_
    refine z_iald rfl rfl (by omega) ?_
    refine z_goto rfl ?_
    refine z_iret rfl rfl ⟨?_, ?_, rfl⟩
    · rw [if_pos hin]
    · rw [if_pos hin]
theorem s_blockOf {Z : ZW} {J : Int64} {x : Int} (hx : RG x) (hs : 0 ≤ Z 4 0 ∧ Z 4 0 ≤ 24) : D 74 [.ref 0, .int (I x)] Z J (some (.int (I (if 0 ≤ x ∧ x < Z 4 0 then Z 15 x else -2)))) (if 0 ≤ x ∧ x < Z 4 0 then Z else rf Z (-2)) J := by
  unfold D Mz
  refine z_aload_n rfl rfl ?_
  refine z_getR rfl rfl rfl rfl ?_
  refine z_iload_n rfl rfl ?_
  refine z_callV1 rfl rfl rfl rfl rfl rfl (s_has hx hs) ?_
  refine z_ifb_eq rfl (fun h8 => ?_) (fun h8 => ?_)
  · refine z_aload_n rfl rfl ?_
    refine z_bipush rfl (by decide) ?_
    refine z_callV1 rfl rfl rfl rfl rfl rfl (s_refuse (by omega)) ?_
    have hno := of_decide_eq_false h8
    refine z_iret rfl rfl ⟨?_, ?_, rfl⟩
    · rw [if_neg hno]
    · rw [if_neg hno]
  · have hin := of_decide_eq_true h8
    refine z_aload_n rfl rfl ?_
    refine z_getR rfl rfl rfl rfl ?_
    refine z_getR rfl rfl rfl rfl ?_
    refine z_iload_n rfl rfl ?_
    refine z_iald rfl rfl (by omega) ?_
    refine z_goto rfl ?_
    refine z_iret rfl rfl ⟨?_, ?_, rfl⟩
    · rw [if_pos hin]
    · rw [if_pos hin]
theorem s_successors {Z : ZW} {J : Int64} {x : Int} (hx : RG x) (hs : 0 ≤ Z 14 0 ∧ Z 14 0 ≤ 24) : D 75 [.ref 0, .int (I x)] Z J (some (.int (I (if 0 ≤ x ∧ x < Z 14 0 then Z 19 x else -2)))) (if 0 ≤ x ∧ x < Z 14 0 then Z else rf Z (-2)) J := by
  unfold D Mz
  refine z_aload_n rfl rfl ?_
  refine z_getR rfl rfl rfl rfl ?_
  refine z_iload_n rfl rfl ?_
  refine z_callV1 rfl rfl rfl rfl rfl rfl (s_ghas hx hs) ?_
  refine z_ifb_eq rfl (fun h8 => ?_) (fun h8 => ?_)
  · refine z_aload_n rfl rfl ?_
    refine z_bipush rfl (by decide) ?_
    refine z_callV1 rfl rfl rfl rfl rfl rfl (s_refuse (by omega)) ?_
    have hno := of_decide_eq_false h8
    refine z_iret rfl rfl ⟨?_, ?_, rfl⟩
    · rw [if_neg hno]
    · rw [if_neg hno]
  · have hin := of_decide_eq_true h8
    refine z_aload_n rfl rfl ?_
    refine z_getR rfl rfl rfl rfl ?_
    refine z_getR rfl rfl rfl rfl ?_
    refine z_iload_n rfl rfl ?_
    refine z_iald rfl rfl (by omega) ?_
    refine z_goto rfl ?_
    refine z_iret rfl rfl ⟨?_, ?_, rfl⟩
    · rw [if_pos hin]
    · rw [if_pos hin]
theorem s_blockCost {Z : ZW} {J : Int64} {x : Int} (hx : RG x) (hs : 0 ≤ Z 14 0 ∧ Z 14 0 ≤ 24) : D 76 [.ref 0, .int (I x)] Z J (some (.int (I (if 0 ≤ x ∧ x < Z 14 0 then Z 25 x else -2)))) (if 0 ≤ x ∧ x < Z 14 0 then Z else rf Z (-2)) J := by
  unfold D Mz
  refine z_aload_n rfl rfl ?_
  refine z_getR rfl rfl rfl rfl ?_
  refine z_iload_n rfl rfl ?_
  refine z_callV1 rfl rfl rfl rfl rfl rfl (s_ghas hx hs) ?_
  refine z_ifb_eq rfl (fun h8 => ?_) (fun h8 => ?_)
  · refine z_aload_n rfl rfl ?_
    refine z_bipush rfl (by decide) ?_
    refine z_callV1 rfl rfl rfl rfl rfl rfl (s_refuse (by omega)) ?_
    have hno := of_decide_eq_false h8
    refine z_iret rfl rfl ⟨?_, ?_, rfl⟩
    · rw [if_neg hno]
    · rw [if_neg hno]
  · have hin := of_decide_eq_true h8
    refine z_aload_n rfl rfl ?_
    refine z_getR rfl rfl rfl rfl ?_
    refine z_getR rfl rfl rfl rfl ?_
    refine z_iload_n rfl rfl ?_
    refine z_iald rfl rfl (by omega) ?_
    refine z_goto rfl ?_
    refine z_iret rfl rfl ⟨?_, ?_, rfl⟩
    · rw [if_pos hin]
    · rw [if_pos hin]
theorem s_chainHead {Z : ZW} {J : Int64} {x : Int} (hx : RG x) (hs : 0 ≤ Z 14 0 ∧ Z 14 0 ≤ 24) : D 77 [.ref 0, .int (I x)] Z J (some (.int (I (if 0 ≤ x ∧ x < Z 14 0 then Z 20 x else -2)))) (if 0 ≤ x ∧ x < Z 14 0 then Z else rf Z (-2)) J := by
  unfold D Mz
  refine z_aload_n rfl rfl ?_
  refine z_getR rfl rfl rfl rfl ?_
  refine z_iload_n rfl rfl ?_
  refine z_callV1 rfl rfl rfl rfl rfl rfl (s_ghas hx hs) ?_
  refine z_ifb_eq rfl (fun h8 => ?_) (fun h8 => ?_)
  · refine z_aload_n rfl rfl ?_
    refine z_bipush rfl (by decide) ?_
    refine z_callV1 rfl rfl rfl rfl rfl rfl (s_refuse (by omega)) ?_
    have hno := of_decide_eq_false h8
    refine z_iret rfl rfl ⟨?_, ?_, rfl⟩
    · rw [if_neg hno]
    · rw [if_neg hno]
  · have hin := of_decide_eq_true h8
    refine z_aload_n rfl rfl ?_
    refine z_getR rfl rfl rfl rfl ?_
    refine z_getR rfl rfl rfl rfl ?_
    refine z_iload_n rfl rfl ?_
    refine z_iald rfl rfl (by omega) ?_
    refine z_goto rfl ?_
    refine z_iret rfl rfl ⟨?_, ?_, rfl⟩
    · rw [if_pos hin]
    · rw [if_pos hin]
theorem s_chainCost {Z : ZW} {J : Int64} {x : Int} (hx : RG x) (hs : 0 ≤ Z 14 0 ∧ Z 14 0 ≤ 24) : D 78 [.ref 0, .int (I x)] Z J (some (.int (I (if 0 ≤ x ∧ x < Z 14 0 then Z 26 x else -2)))) (if 0 ≤ x ∧ x < Z 14 0 then Z else rf Z (-2)) J := by
  unfold D Mz
  refine z_aload_n rfl rfl ?_
  refine z_getR rfl rfl rfl rfl ?_
  refine z_iload_n rfl rfl ?_
  refine z_callV1 rfl rfl rfl rfl rfl rfl (s_ghas hx hs) ?_
  refine z_ifb_eq rfl (fun h8 => ?_) (fun h8 => ?_)
  · refine z_aload_n rfl rfl ?_
    refine z_bipush rfl (by decide) ?_
    refine z_callV1 rfl rfl rfl rfl rfl rfl (s_refuse (by omega)) ?_
    have hno := of_decide_eq_false h8
    refine z_iret rfl rfl ⟨?_, ?_, rfl⟩
    · rw [if_neg hno]
    · rw [if_neg hno]
  · have hin := of_decide_eq_true h8
    refine z_aload_n rfl rfl ?_
    refine z_getR rfl rfl rfl rfl ?_
    refine z_getR rfl rfl rfl rfl ?_
    refine z_iload_n rfl rfl ?_
    refine z_iald rfl rfl (by omega) ?_
    refine z_goto rfl ?_
    refine z_iret rfl rfl ⟨?_, ?_, rfl⟩
    · rw [if_pos hin]
    · rw [if_pos hin]
theorem s_blocks {Z : ZW} {J : Int64} : D 73 [.ref 0] Z J (some (.int (I (Z 14 0)))) Z J := by
  unfold D Mz
  refine z_aload_n rfl rfl ?_
  refine z_getR rfl rfl rfl rfl ?_
  refine z_getI (bi := 0) rfl rfl rfl rfl ?_
  exact z_iret rfl rfl ⟨rfl, rfl, rfl⟩
theorem s_reachableBlocks {Z : ZW} {J : Int64} : D 79 [.ref 0] Z J (some (.int (I (Z 14 1)))) Z J := by
  unfold D Mz
  refine z_aload_n rfl rfl ?_
  refine z_getR rfl rfl rfl rfl ?_
  refine z_getI (bi := 1) rfl rfl rfl rfl ?_
  exact z_iret rfl rfl ⟨rfl, rfl, rfl⟩
theorem s_greatestCost {Z : ZW} {J : Int64} : D 80 [.ref 0] Z J (some (.int (I (Z 24 0)))) Z J := by
  unfold D Mz
  refine z_aload_n rfl rfl ?_
  refine z_getR rfl rfl rfl rfl ?_
  refine z_getI (bi := 0) rfl rfl rfl rfl ?_
  exact z_iret rfl rfl ⟨rfl, rfl, rfl⟩
theorem s_leastCost {Z : ZW} {J : Int64} : D 81 [.ref 0] Z J (some (.int (I (Z 24 1)))) Z J := by
  unfold D Mz
  refine z_aload_n rfl rfl ?_
  refine z_getR rfl rfl rfl rfl ?_
  refine z_getI (bi := 1) rfl rfl rfl rfl ?_
  exact z_iret rfl rfl ⟨rfl, rfl, rfl⟩
theorem s_steps {Z : ZW} {J : Int64} : D 83 [.ref 0] Z J (some (.int (I (Z 59 1)))) Z J := by
  unfold D Mz
  refine z_aload_n rfl rfl ?_
  refine z_getR rfl rfl rfl rfl ?_
  refine z_getI (bi := 1) rfl rfl rfl rfl ?_
  exact z_iret rfl rfl ⟨rfl, rfl, rfl⟩
theorem s_remaining {Z : ZW} {J : Int64} : D 84 [.ref 0] Z J (some (.int (I (Z 59 2)))) Z J := by
  unfold D Mz
  refine z_aload_n rfl rfl ?_
  refine z_getR rfl rfl rfl rfl ?_
  refine z_getI (bi := 2) rfl rfl rfl rfl ?_
  exact z_iret rfl rfl ⟨rfl, rfl, rfl⟩
theorem s_charges {Z : ZW} {J : Int64} : D 85 [.ref 0] Z J (some (.int (I (Z 59 3)))) Z J := by
  unfold D Mz
  refine z_aload_n rfl rfl ?_
  refine z_getR rfl rfl rfl rfl ?_
  refine z_getI (bi := 3) rfl rfl rfl rfl ?_
  exact z_iret rfl rfl ⟨rfl, rfl, rfl⟩
theorem s_stoppedAt {Z : ZW} {J : Int64} : D 87 [.ref 0] Z J (some (.int (I (Z 59 4)))) Z J := by
  unfold D Mz
  refine z_aload_n rfl rfl ?_
  refine z_getR rfl rfl rfl rfl ?_
  refine z_getI (bi := 4) rfl rfl rfl rfl ?_
  exact z_iret rfl rfl ⟨rfl, rfl, rfl⟩
theorem s_errorCount {Z : ZW} {J : Int64} {x : Int} (hx : RG x) : D 92 [.ref 0, .int (I x)] Z J (some (.int (I (if -4 ≤ x ∧ x ≤ -2 then Z 63 (-2 - x) else -2)))) (if -4 ≤ x ∧ x ≤ -2 then Z else rf Z (-2)) J := by
  unfold D Mz
  refine z_iload_n rfl rfl ?_
  refine z_callS1 rfl rfl rfl rfl (s_isErr hx) ?_
  refine z_ifb_eq rfl (fun h4 => ?_) (fun h4 => ?_)
  · refine z_aload_n rfl rfl ?_
    refine z_bipush rfl (by decide) ?_
    refine z_callV1 rfl rfl rfl rfl rfl rfl (s_refuse (by omega)) ?_
    have hno := of_decide_eq_false h4
    refine z_iret rfl rfl ⟨?_, ?_, rfl⟩
    · rw [if_neg hno]
    · rw [if_neg hno]
  · have hin := of_decide_eq_true h4
    refine z_aload_n rfl rfl ?_
    refine z_getR rfl rfl rfl rfl ?_
    refine z_bipush rfl (by decide) ?_
    refine z_iload_n rfl rfl ?_
    refine z_isub rfl ?_
    refine z_iald rfl rfl (by omega) ?_
    refine z_goto rfl ?_
    refine z_iret rfl rfl ⟨?_, ?_, rfl⟩
    · rw [if_pos hin]
    · rw [if_pos hin]
