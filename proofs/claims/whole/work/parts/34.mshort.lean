/-! the reference: the short ones -/
theorem m_within {Z : ZW} {J : Int64} {x a b : Int} (hx : RG x) (ha : RG a) (hb : RG b) : D 99 [.int (I x), .int (I a), .int (I b)] Z J (some (bI (decide (a ≤ x ∧ x ≤ b)))) Z J := by
  unfold D Mz
  refine z_iload_n rfl rfl ?_
  refine z_iload_n rfl rfl ?_
  refine z_icmp_lt rfl (by omega) (by omega) (fun h2 => ?_) (fun h2 => ?_)
  · refine z_iconst rfl ?_
    first | exact z_bret0 rfl rfl ⟨bz0 (decide_eq_false (by omega)), rfl, rfl⟩ | exact z_bret1 rfl rfl ⟨bz1 (decide_eq_true (by omega)), rfl, rfl⟩
  · refine z_iload_n rfl rfl ?_
    refine z_iload_n rfl rfl ?_
    refine z_icmp_gt rfl (by omega) (by omega) (fun h7 => ?_) (fun h7 => ?_)
    · refine z_iconst rfl ?_
      first | exact z_bret0 rfl rfl ⟨bz0 (decide_eq_false (by omega)), rfl, rfl⟩ | exact z_bret1 rfl rfl ⟨bz1 (decide_eq_true (by omega)), rfl, rfl⟩
    · refine z_iconst rfl ?_
      refine z_goto rfl ?_
      first | exact z_bret0 rfl rfl ⟨bz0 (decide_eq_false (by omega)), rfl, rfl⟩ | exact z_bret1 rfl rfl ⟨bz1 (decide_eq_true (by omega)), rfl, rfl⟩
def mf (Z : ZW) (x : Int) : ZW := up Z 68 (-2 - x) (Z 68 (-2 - x) + 1)
theorem m_counts {Z : ZW} {J : Int64} {x : Int} (hx : -4 ≤ x ∧ x ≤ -2) : D 100 [.ref 64, .int (I x)] Z J (some (.int (I (x)))) (mf Z x) J := by
  unfold D Mz
  refine z_aload_n rfl rfl ?_
  refine z_getR rfl rfl rfl rfl ?_
  refine z_bipush rfl (by decide) ?_
  refine z_iload_n rfl rfl ?_
  refine z_isub rfl ?_
  refine z_dup2 rfl rfl rfl ?_
  refine z_iald rfl rfl (by omega) ?_
  refine z_iconst rfl ?_
  refine z_iadd rfl ?_
  refine z_iast rfl rfl (by omega) ?_
  refine z_iload_n rfl rfl ?_
  exact z_iret rfl rfl ⟨rfl, rfl, rfl⟩
theorem m_append {Z : ZW} {J : Int64} {x : Int} (hx : RG x) (hl : 0 ≤ Z 64 6 ∧ Z 64 6 ≤ 150) : D 104 [.ref 64, .int (I x)] Z J (some (.int (I (if 0 ≤ x ∧ x ≤ 127 then (if Z 64 6 < 150 then Z 64 6 + 1 else -3) else -2)))) (if 0 ≤ x ∧ x ≤ 127 then (if Z 64 6 < 150 then up (up Z 69 (Z 64 6) x) 64 6 (Z 64 6 + 1) else mf Z (-3)) else mf Z (-2)) J := by
  unfold D Mz
  refine z_iload_n rfl rfl ?_
  refine z_iconst rfl ?_
  refine z_bipush rfl (by decide) ?_
  refine z_callS3 rfl rfl rfl rfl (m_within (by omega) (by omega) (by omega)) ?_
  refine z_ifb_ne rfl (fun h7 => ?_) (fun h7 => ?_)
  · have hin := of_decide_eq_true h7
    refine z_aload_n rfl rfl ?_
    refine z_getI (bi := 6) rfl rfl rfl rfl ?_
    refine z_sipush rfl (by decide) ?_
    refine z_icmp_ne rfl (by omega) (by omega) (fun h24 => ?_) (fun h24 => ?_)
    · refine z_aload_n rfl rfl ?_
      refine z_getR rfl rfl rfl rfl ?_
      refine z_aload_n rfl rfl ?_
      refine z_getI (bi := 6) rfl rfl rfl rfl ?_
      refine z_iload_n rfl rfl ?_
      refine z_iast rfl rfl (by omega) ?_
      refine z_aload_n rfl rfl ?_
      refine z_dup rfl rfl ?_
      refine z_getI (bi := 6) rfl rfl rfl rfl ?_
      rw [up_ne (by decide)]
      refine z_iconst rfl ?_
      refine z_iadd rfl ?_
      refine z_putI (bi := 6) rfl rfl rfl rfl rfl ?_
      refine z_aload_n rfl rfl ?_
      refine z_getI (bi := 6) rfl rfl rfl rfl ?_
      rw [up_eq]
      refine z_iret rfl rfl ⟨?_, ?_, rfl⟩
      · rw [if_pos hin, if_pos (by omega)]
      · rw [if_pos hin, if_pos (by omega)]
    · refine z_aload_n rfl rfl ?_
      refine z_bipush rfl (by decide) ?_
      refine z_callV1 rfl rfl rfl rfl rfl rfl (m_counts (by omega)) ?_
      refine z_iret rfl rfl ⟨?_, ?_, rfl⟩
      · rw [if_pos hin, if_neg (by omega)]
      · rw [if_pos hin, if_neg (by omega)]
  · have hno := of_decide_eq_false h7
    refine z_aload_n rfl rfl ?_
    refine z_bipush rfl (by decide) ?_
    refine z_callV1 rfl rfl rfl rfl rfl rfl (m_counts (by omega)) ?_
    refine z_iret rfl rfl ⟨?_, ?_, rfl⟩
    · rw [if_neg hno]
    · rw [if_neg hno]
theorem m_clearText {Z : ZW} {J : Int64} : D 105 [.ref 64] Z J (some (.int (I (Z 64 6)))) (up Z 64 6 0) J := by
  unfold D Mz
  refine z_aload_n rfl rfl ?_
  refine z_getI (bi := 6) rfl rfl rfl rfl ?_
  refine z_istore_n rfl rfl rfl ?_
  refine z_aload_n rfl rfl ?_
  refine z_iconst rfl ?_
  refine z_putI (bi := 6) rfl rfl rfl rfl rfl ?_
  refine z_iload_n rfl rfl ?_
  exact z_iret rfl rfl ⟨rfl, rfl, rfl⟩
theorem m_isInstr {Z : ZW} {J : Int64} {x : Int} (hx : RG x) (hn : 0 ≤ Z 65 0 ∧ Z 65 0 ≤ 24) : D 101 [.ref 64, .int (I x)] Z J (some (bI (decide (0 ≤ x ∧ x ≤ Z 65 0 - 1)))) Z J := by
  unfold D Mz
  refine z_iload_n rfl rfl ?_
  refine z_iconst rfl ?_
  refine z_aload_n rfl rfl ?_
  refine z_getR rfl rfl rfl rfl ?_
  refine z_iconst rfl ?_
  refine z_iald rfl rfl (by omega) ?_
  refine z_iconst rfl ?_
  refine z_isub rfl ?_
  refine z_callS3 rfl rfl rfl rfl (m_within (by omega) (by omega) (by omega)) ?_
  exact z_bret rfl rfl ⟨rfl, rfl, rfl⟩
theorem m_opcode {Z : ZW} {J : Int64} {x : Int} (hx : RG x) (hn : 0 ≤ Z 65 0 ∧ Z 65 0 ≤ 24) : D 113 [.ref 64, .int (I x)] Z J (some (.int (I (if 0 ≤ x ∧ x ≤ Z 65 0 - 1 then Z 65 (1 + x) else -2)))) (if 0 ≤ x ∧ x ≤ Z 65 0 - 1 then Z else mf Z (-2)) J := by
  unfold D Mz
  refine z_aload_n rfl rfl ?_
  refine z_iload_n rfl rfl ?_
  refine z_callV1 rfl rfl rfl rfl rfl rfl (m_isInstr hx hn) ?_
  refine z_ifb_eq rfl (fun h5 => ?_) (fun h5 => ?_)
  · refine z_aload_n rfl rfl ?_
    refine z_bipush rfl (by decide) ?_
    refine z_callV1 rfl rfl rfl rfl rfl rfl (m_counts (by omega)) ?_
    have hno := of_decide_eq_false h5
    refine z_iret rfl rfl ⟨?_, ?_, rfl⟩
    · rw [if_neg hno]
    · rw [if_neg hno]
  · have hin := of_decide_eq_true h5
    refine z_aload_n rfl rfl ?_
    refine z_getR rfl rfl rfl rfl ?_
    refine z_iconst rfl ?_
    refine z_iload_n rfl rfl ?_
    refine z_iadd rfl ?_
    refine z_iald rfl rfl (by omega) ?_
    refine z_goto rfl ?_
    refine z_iret rfl rfl ⟨?_, ?_, rfl⟩
    · rw [if_pos hin]
    · rw [if_pos hin]
theorem m_register {Z : ZW} {J : Int64} {x : Int} (hx : RG x) : D 143 [.ref 64, .int (I x)] Z J (some (.int (I (if 0 ≤ x ∧ x ≤ 3 then Z 78 x else 0)))) Z J := by
  unfold D Mz
  refine z_iload_n rfl rfl ?_
  refine z_iconst rfl ?_
  refine z_iconst rfl ?_
  refine z_callS3 rfl rfl rfl rfl (m_within (by omega) (by omega) (by omega)) ?_
  refine z_ifb_eq rfl (fun h6 => ?_) (fun h6 => ?_)
  · refine z_iconst rfl ?_
    have hno := of_decide_eq_false h6
    exact z_iret rfl rfl ⟨by rw [if_neg hno], rfl, rfl⟩
  · have hin := of_decide_eq_true h6
    refine z_aload_n rfl rfl ?_
    refine z_getR rfl rfl rfl rfl ?_
    refine z_iload_n rfl rfl ?_
    refine z_iald rfl rfl (by omega) ?_
    refine z_goto rfl ?_
    exact z_iret rfl rfl ⟨by rw [if_pos hin], rfl, rfl⟩
theorem m_errorCount {Z : ZW} {J : Int64} {x : Int} (hx : RG x) : D 149 [.ref 64, .int (I x)] Z J (some (.int (I (if -4 ≤ x ∧ x ≤ -2 then Z 68 (-2 - x) else -2)))) (if -4 ≤ x ∧ x ≤ -2 then Z else mf Z (-2)) J := by
  unfold D Mz
  refine z_iload_n rfl rfl ?_
  refine z_bipush rfl (by decide) ?_
  refine z_bipush rfl (by decide) ?_
  refine z_callS3 rfl rfl rfl rfl (m_within (by omega) (by omega) (by omega)) ?_
  refine z_ifb_eq rfl (fun h8 => ?_) (fun h8 => ?_)
  · refine z_aload_n rfl rfl ?_
    refine z_bipush rfl (by decide) ?_
    refine z_callV1 rfl rfl rfl rfl rfl rfl (m_counts (by omega)) ?_
    have hno := of_decide_eq_false h8
    refine z_iret rfl rfl ⟨?_, ?_, rfl⟩
    · rw [if_neg hno]
    · rw [if_neg hno]
  · have hin := of_decide_eq_true h8
    refine z_aload_n rfl rfl ?_
    refine z_getR rfl rfl rfl rfl ?_
    refine z_bipush rfl (by decide) ?_
    refine z_iload_n rfl rfl ?_
    refine z_isub rfl ?_
    refine z_iald rfl rfl (by omega) ?_
    refine z_goto rfl ?_
    refine z_iret rfl rfl ⟨?_, ?_, rfl⟩
    · rw [if_pos hin]
    · rw [if_pos hin]
theorem m_steps {Z : ZW} {J : Int64} : D 140 [.ref 64] Z J (some (.int (I (Z 64 19)))) Z J := by
  unfold D Mz
  refine z_aload_n rfl rfl ?_
  refine z_getI (bi := 19) rfl rfl rfl rfl ?_
  exact z_iret rfl rfl ⟨rfl, rfl, rfl⟩
theorem m_remaining {Z : ZW} {J : Int64} : D 141 [.ref 64] Z J (some (.int (I (Z 64 20)))) Z J := by
  unfold D Mz
  refine z_aload_n rfl rfl ?_
  refine z_getI (bi := 20) rfl rfl rfl rfl ?_
  exact z_iret rfl rfl ⟨rfl, rfl, rfl⟩
theorem m_charges {Z : ZW} {J : Int64} : D 142 [.ref 64] Z J (some (.int (I (Z 64 21)))) Z J := by
  unfold D Mz
  refine z_aload_n rfl rfl ?_
  refine z_getI (bi := 21) rfl rfl rfl rfl ?_
  exact z_iret rfl rfl ⟨rfl, rfl, rfl⟩
theorem m_stoppedAt {Z : ZW} {J : Int64} : D 144 [.ref 64] Z J (some (.int (I (Z 64 22)))) Z J := by
  unfold D Mz
  refine z_aload_n rfl rfl ?_
  refine z_getI (bi := 22) rfl rfl rfl rfl ?_
  exact z_iret rfl rfl ⟨rfl, rfl, rfl⟩
theorem m_costAt {Z : ZW} {J : Int64} {x : Int} (hx : 0 ≤ x ∧ x < 24) (ho : 0 ≤ Z 65 (1 + x) ∧ Z 65 (1 + x) ≤ 7) : D 114 [.ref 64, .int (I x)] Z J (some (.int (I (Z 65 (73 + Z 65 (1 + x)))))) Z J := by
  unfold D Mz
  refine z_aload_n rfl rfl ?_
  refine z_getR rfl rfl rfl rfl ?_
  refine z_bipush rfl (by decide) ?_
  refine z_aload_n rfl rfl ?_
  refine z_getR rfl rfl rfl rfl ?_
  refine z_iconst rfl ?_
  refine z_iload_n rfl rfl ?_
  refine z_iadd rfl ?_
  refine z_iald rfl rfl (by omega) ?_
  refine z_iadd rfl ?_
  refine z_iald rfl rfl (by omega) ?_
  exact z_iret rfl rfl ⟨rfl, rfl, rfl⟩
theorem m_isBranch {Z : ZW} {J : Int64} {x : Int} (hx : 0 ≤ x ∧ x < 24) (ho : 0 ≤ Z 65 (1 + x) ∧ Z 65 (1 + x) ≤ 7) : D 115 [.ref 64, .int (I x)] Z J (some (bI (decide (Z 65 (1 + x) = 5 ∨ Z 65 (1 + x) = 6)))) Z J := by
  unfold D Mz
  refine z_aload_n rfl rfl ?_
  refine z_getR rfl rfl rfl rfl ?_
  refine z_iconst rfl ?_
  refine z_iload_n rfl rfl ?_
  refine z_iadd rfl ?_
  refine z_iald rfl rfl (by omega) ?_
  refine z_iconst rfl ?_
  refine z_icmp_eq rfl (by omega) (by omega) (fun h9 => ?_) (fun h9 => ?_)
  · refine z_iconst rfl ?_
    refine z_goto rfl ?_
    first | exact z_bret0 rfl rfl ⟨bz0 (decide_eq_false (by omega)), rfl, rfl⟩ | exact z_bret1 rfl rfl ⟨bz1 (decide_eq_true (by omega)), rfl, rfl⟩
  · refine z_aload_n rfl rfl ?_
    refine z_getR rfl rfl rfl rfl ?_
    refine z_iconst rfl ?_
    refine z_iload_n rfl rfl ?_
    refine z_iadd rfl ?_
    refine z_iald rfl rfl (by omega) ?_
    refine z_bipush rfl (by decide) ?_
    refine z_icmp_ne rfl (by omega) (by omega) (fun h22 => ?_) (fun h22 => ?_)
    · refine z_iconst rfl ?_
      first | exact z_bret0 rfl rfl ⟨bz0 (decide_eq_false (by omega)), rfl, rfl⟩ | exact z_bret1 rfl rfl ⟨bz1 (decide_eq_true (by omega)), rfl, rfl⟩
    · refine z_iconst rfl ?_
      refine z_goto rfl ?_
      first | exact z_bret0 rfl rfl ⟨bz0 (decide_eq_false (by omega)), rfl, rfl⟩ | exact z_bret1 rfl rfl ⟨bz1 (decide_eq_true (by omega)), rfl, rfl⟩
theorem m_targetOf {Z : ZW} {J : Int64} {x : Int} (hx : 0 ≤ x ∧ x < 24) (ho : 0 ≤ Z 65 (1 + x) ∧ Z 65 (1 + x) ≤ 7) : D 116 [.ref 64, .int (I x)] Z J (some (.int (I (if jmB (Z 65 (1 + x)) = true then Z 65 (49 + x) else 24)))) Z J := by
  unfold D Mz
  refine z_aload_n rfl rfl ?_
  refine z_getR rfl rfl rfl rfl ?_
  refine z_iconst rfl ?_
  refine z_iload_n rfl rfl ?_
  refine z_iadd rfl ?_
  refine z_iald rfl rfl (by omega) ?_
  refine z_iconst rfl ?_
  refine z_icmp_eq rfl (by omega) (by omega) (fun h9 => ?_) (fun h9 => ?_)
  · refine z_aload_n rfl rfl ?_
    refine z_getR rfl rfl rfl rfl ?_
    refine z_bipush rfl (by decide) ?_
    refine z_iload_n rfl rfl ?_
    refine z_iadd rfl ?_
    refine z_iald rfl rfl (by omega) ?_
    refine z_goto rfl ?_
    exact z_iret rfl rfl ⟨by rw [if_pos (show jmB (Z 65 (1 + x)) = true from decide_eq_true (by omega))], rfl, rfl⟩
  · refine z_aload_n rfl rfl ?_
    refine z_iload_n rfl rfl ?_
    refine z_callV1 rfl rfl rfl rfl rfl rfl (m_isBranch hx ho) ?_
    refine z_ifb_eq rfl (fun h17 => ?_) (fun h17 => ?_)
    · refine z_bipush rfl (by decide) ?_
      have hb := of_decide_eq_false h17
      exact z_iret rfl rfl ⟨by rw [if_neg (fun q => by have := of_decide_eq_true q; omega)], rfl, rfl⟩
    · refine z_aload_n rfl rfl ?_
      refine z_getR rfl rfl rfl rfl ?_
      refine z_bipush rfl (by decide) ?_
      refine z_iload_n rfl rfl ?_
      refine z_iadd rfl ?_
      refine z_iald rfl rfl (by omega) ?_
      refine z_goto rfl ?_
      have hb := of_decide_eq_true h17
      exact z_iret rfl rfl ⟨by rw [if_pos (show jmB (Z 65 (1 + x)) = true from decide_eq_true (by omega))], rfl, rfl⟩
