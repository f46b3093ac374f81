/-! the reference: what is asked of blocks -/
theorem LBf_mf {Z Z1 : ZW} {x : Int} (h : LBf Z Z1) : LBf (mf Z x) (mf Z1 x) := by
  intro k j hk h9
  unfold mf up
  rw [h 68 _ (by omega) (by omega)]
  split
  · rfl
  · exact h k j hk h9
theorem m_isBlock {Z : ZW} {J : Int64} {n : Nat} {x : Int} (hx : RG x) (hn : Z 65 0 = n) (hn2 : n ≤ 24) (hw : WFP (mO Z) (mA Z) (mB Z) n) : Mz 124 [.ref 64, .int (I x)] Z J (fun r Z' J' => r = some (bI (decide (0 ≤ x ∧ x < (gnb (mO Z) (mB Z) n : Int)))) ∧ J' = J ∧ LB (mC Z) (mO Z) (mB Z) n Z' ∧ LBf Z Z') := by
  have hg := gnb_le (mO Z) (mB Z) n
  unfold Mz
  refine z_aload_n rfl rfl ?_
  refine z_callV0g rfl rfl rfl rfl rfl rfl (m_laysBlocks hn hn2 hw) (fun r1 Z1 J1 q1 => ?_)
  obtain ⟨rfl, rfl, hL, hF⟩ := q1
  show OkZ none 124 4 _ [] _ _ _
  refine z_iload_n rfl rfl ?_
  refine z_iconst rfl ?_
  refine z_aload_n rfl rfl ?_
  refine z_getI (bi := 9) rfl rfl rfl rfl ?_
  rw [hL.1]
  refine z_iconst rfl ?_
  refine z_isub rfl ?_
  refine z_callS3 rfl rfl rfl rfl (m_within hx (by omega) (by omega)) ?_
  refine z_bret rfl rfl ⟨?_, rfl, hL, hF⟩
  rw [show decide (0 ≤ x ∧ x ≤ (gnb (mO Z) (mB Z) n : Int) - 1) = (decide (0 ≤ x ∧ x < (gnb (mO Z) (mB Z) n : Int))) from decide_eq_decide.mpr (by omega)]
theorem m_blocks {Z : ZW} {J : Int64} {n : Nat} (hn : Z 65 0 = n) (hn2 : n ≤ 24) (hw : WFP (mO Z) (mA Z) (mB Z) n) : Mz 126 [.ref 64] Z J (fun r Z' J' => J' = J ∧ r = some (.int (I (gnb (mO Z) (mB Z) n : Int))) ∧ LBf Z Z') := by
  have hg := gnb_le (mO Z) (mB Z) n
  unfold Mz
  refine z_aload_n rfl rfl ?_
  refine z_callV0g rfl rfl rfl rfl rfl rfl (m_laysBlocks hn hn2 hw) (fun r1 Z1 J1 q1 => ?_)
  obtain ⟨rfl, rfl, hL, hF⟩ := q1
  show OkZ none 126 4 _ [] _ _ _
  refine z_aload_n rfl rfl ?_
  refine z_getI (bi := 9) rfl rfl rfl rfl ?_
  rw [hL.1]
  exact z_iret rfl rfl ⟨rfl, rfl, hF⟩
theorem m_blockOf {Z : ZW} {J : Int64} {n : Nat} {x : Int} (hx : RG x) (hn : Z 65 0 = n) (hn2 : n ≤ 24) (hw : WFP (mO Z) (mA Z) (mB Z) n) : Mz 127 [.ref 64, .int (I x)] Z J (fun r Z' J' => J' = J ∧ r = some (.int (I (if 0 ≤ x ∧ x < (n : Int) then gblk (mO Z) (mB Z) n x else -2))) ∧ LBf (if 0 ≤ x ∧ x < (n : Int) then Z else mf Z (-2)) Z') := by
  have hg := gnb_le (mO Z) (mB Z) n
  unfold Mz
  refine z_aload_n rfl rfl ?_
  refine z_callV0g rfl rfl rfl rfl rfl rfl (m_laysBlocks hn hn2 hw) (fun r1 Z1 J1 q1 => ?_)
  obtain ⟨rfl, rfl, hL, hF⟩ := q1
  show OkZ none 127 4 _ [] _ _ _
  have e0 : Z1 65 0 = n := by rw [hF 65 0 (by omega) (by omega)]; exact hn
  refine z_aload_n rfl rfl ?_
  refine z_iload_n rfl rfl ?_
  refine z_callV1 rfl rfl rfl rfl rfl rfl (m_isInstr hx (by omega)) ?_
  refine z_ifb_eq rfl (fun h9 => ?_) (fun h9 => ?_)
  · refine z_aload_n rfl rfl ?_
    refine z_bipush rfl (by decide) ?_
    refine z_callV1 rfl rfl rfl rfl rfl rfl (m_counts (by omega)) ?_
    have hno := of_decide_eq_false h9
    exact z_iret rfl rfl ⟨rfl, by rw [if_neg (by omega)], by rw [if_neg (by omega)]; exact LBf_mf hF⟩
  · have hin := of_decide_eq_true h9
    refine z_aload_n rfl rfl ?_
    refine z_getR rfl rfl rfl rfl ?_
    refine z_iload_n rfl rfl ?_
    refine z_iald rfl rfl (by omega) ?_
    rw [hL.2.1 x hin.1 (by omega)]
    refine z_goto rfl ?_
    exact z_iret rfl rfl ⟨rfl, by rw [if_pos (by omega)], by rw [if_pos (by omega)]; exact hF⟩
theorem m_successors {Z : ZW} {J : Int64} {n : Nat} {x : Int} (hx : RG x) (hn : Z 65 0 = n) (hn2 : n ≤ 24) (hw : WFP (mO Z) (mA Z) (mB Z) n) : Mz 128 [.ref 64, .int (I x)] Z J (fun r Z' J' => J' = J ∧ r = some (.int (I (if 0 ≤ x ∧ x < (gnb (mO Z) (mB Z) n : Int) then gS (mO Z) (mB Z) n x else -2))) ∧ LBf (if 0 ≤ x ∧ x < (gnb (mO Z) (mB Z) n : Int) then Z else mf Z (-2)) Z') := by
  have hg := gnb_le (mO Z) (mB Z) n
  unfold Mz
  refine z_aload_n rfl rfl ?_
  refine z_iload_n rfl rfl ?_
  refine z_callV1g rfl rfl rfl rfl rfl rfl (m_isBlock hx hn hn2 hw) (fun r2 Z2 J2 q2 => ?_)
  obtain ⟨rfl, rfl, hL, hF⟩ := q2
  show OkZ none 128 5 _ [bI (decide (0 ≤ x ∧ x < (gnb (mO Z) (mB Z) n : Int)))] _ _ _
  refine z_ifb_eq rfl (fun h5 => ?_) (fun h5 => ?_)
  · refine z_aload_n rfl rfl ?_
    refine z_bipush rfl (by decide) ?_
    refine z_callV1 rfl rfl rfl rfl rfl rfl (m_counts (by omega)) ?_
    have hno := of_decide_eq_false h5
    exact z_iret rfl rfl ⟨rfl, by rw [if_neg hno], by rw [if_neg hno]; exact LBf_mf hF⟩
  · have hin := of_decide_eq_true h5
    refine z_aload_n rfl rfl ?_
    refine z_getR rfl rfl rfl rfl ?_
    refine z_iload_n rfl rfl ?_
    refine z_iald rfl rfl (by omega) ?_
    rw [(hL.2.2 x hin.1 hin.2).2.1]
    refine z_goto rfl ?_
    exact z_iret rfl rfl ⟨rfl, by rw [if_pos hin], by rw [if_pos hin]; exact hF⟩
theorem m_blockCost {Z : ZW} {J : Int64} {n : Nat} {x : Int} (hx : RG x) (hn : Z 65 0 = n) (hn2 : n ≤ 24) (hw : WFP (mO Z) (mA Z) (mB Z) n) : Mz 129 [.ref 64, .int (I x)] Z J (fun r Z' J' => J' = J ∧ r = some (.int (I (if 0 ≤ x ∧ x < (gnb (mO Z) (mB Z) n : Int) then gC (mC Z) (mO Z) (mB Z) n x else -2))) ∧ LBf (if 0 ≤ x ∧ x < (gnb (mO Z) (mB Z) n : Int) then Z else mf Z (-2)) Z') := by
  have hg := gnb_le (mO Z) (mB Z) n
  unfold Mz
  refine z_aload_n rfl rfl ?_
  refine z_iload_n rfl rfl ?_
  refine z_callV1g rfl rfl rfl rfl rfl rfl (m_isBlock hx hn hn2 hw) (fun r2 Z2 J2 q2 => ?_)
  obtain ⟨rfl, rfl, hL, hF⟩ := q2
  show OkZ none 129 5 _ [bI (decide (0 ≤ x ∧ x < (gnb (mO Z) (mB Z) n : Int)))] _ _ _
  refine z_ifb_eq rfl (fun h5 => ?_) (fun h5 => ?_)
  · refine z_aload_n rfl rfl ?_
    refine z_bipush rfl (by decide) ?_
    refine z_callV1 rfl rfl rfl rfl rfl rfl (m_counts (by omega)) ?_
    have hno := of_decide_eq_false h5
    exact z_iret rfl rfl ⟨rfl, by rw [if_neg hno], by rw [if_neg hno]; exact LBf_mf hF⟩
  · have hin := of_decide_eq_true h5
    refine z_aload_n rfl rfl ?_
    refine z_getR rfl rfl rfl rfl ?_
    refine z_iload_n rfl rfl ?_
    refine z_iald rfl rfl (by omega) ?_
    rw [(hL.2.2 x hin.1 hin.2).2.2.2.1]
    refine z_goto rfl ?_
    exact z_iret rfl rfl ⟨rfl, by rw [if_pos hin], by rw [if_pos hin]; exact hF⟩
theorem m_chainHead {Z : ZW} {J : Int64} {n : Nat} {x : Int} (hx : RG x) (hn : Z 65 0 = n) (hn2 : n ≤ 24) (hw : WFP (mO Z) (mA Z) (mB Z) n) : Mz 130 [.ref 64, .int (I x)] Z J (fun r Z' J' => J' = J ∧ r = some (.int (I (if 0 ≤ x ∧ x < (gnb (mO Z) (mB Z) n : Int) then gH (mO Z) (mB Z) n x else -2))) ∧ LBf (if 0 ≤ x ∧ x < (gnb (mO Z) (mB Z) n : Int) then Z else mf Z (-2)) Z') := by
  have hg := gnb_le (mO Z) (mB Z) n
  unfold Mz
  refine z_aload_n rfl rfl ?_
  refine z_iload_n rfl rfl ?_
  refine z_callV1g rfl rfl rfl rfl rfl rfl (m_isBlock hx hn hn2 hw) (fun r2 Z2 J2 q2 => ?_)
  obtain ⟨rfl, rfl, hL, hF⟩ := q2
  show OkZ none 130 5 _ [bI (decide (0 ≤ x ∧ x < (gnb (mO Z) (mB Z) n : Int)))] _ _ _
  refine z_ifb_eq rfl (fun h5 => ?_) (fun h5 => ?_)
  · refine z_aload_n rfl rfl ?_
    refine z_bipush rfl (by decide) ?_
    refine z_callV1 rfl rfl rfl rfl rfl rfl (m_counts (by omega)) ?_
    have hno := of_decide_eq_false h5
    exact z_iret rfl rfl ⟨rfl, by rw [if_neg hno], by rw [if_neg hno]; exact LBf_mf hF⟩
  · have hin := of_decide_eq_true h5
    refine z_aload_n rfl rfl ?_
    refine z_getR rfl rfl rfl rfl ?_
    refine z_iload_n rfl rfl ?_
    refine z_iald rfl rfl (by omega) ?_
    rw [(hL.2.2 x hin.1 hin.2).2.2.2.2]
    refine z_goto rfl ?_
    exact z_iret rfl rfl ⟨rfl, by rw [if_pos hin], by rw [if_pos hin]; exact hF⟩
theorem cc_gK {co op rb : FI} {n : Nat} {Z : ZW} (h : LB co op rb n Z) {b : Int} (h0 : 0 ≤ b) (h1 : b < gnb op rb n) : ccF (Z 76) (Z 74) (gnb op rb n) (Z 76 b) = gK co op rb n (gH op rb n b) := by
  obtain ⟨a1, a2, a3⟩ := h
  rw [(a3 b h0 h1).2.2.2.2]
  exact ccF_congr (fun t ht => ⟨(a3 t (by omega) (by omega)).2.2.2.2, (a3 t (by omega) (by omega)).2.2.2.1⟩) _
theorem LB_H {co op rb : FI} {n : Nat} {Z : ZW} (hn : n ≤ 24) (h : LB co op rb n Z) : ∀ t, 0 ≤ t → t < (gnb op rb n : Int) → RG (Z 76 t) := by
  intro t t0 t1
  have hg := gnb_le op rb n
  have := Hd_in (gJ_ok op rb hn) t0 t1 (gH_hd op rb hn t0 t1)
  rw [(h.2.2 t t0 t1).2.2.2.2]
  omega
theorem m_chainCost {Z : ZW} {J : Int64} {n : Nat} {x : Int} (hx : RG x) (hn : Z 65 0 = n) (hn2 : n ≤ 24) (hw : WFP (mO Z) (mA Z) (mB Z) n) : Mz 131 [.ref 64, .int (I x)] Z J (fun r Z' J' => J' = J ∧ r = some (.int (I (if 0 ≤ x ∧ x < (gnb (mO Z) (mB Z) n : Int) then gK (mC Z) (mO Z) (mB Z) n (gH (mO Z) (mB Z) n x) else -2))) ∧ LBf (if 0 ≤ x ∧ x < (gnb (mO Z) (mB Z) n : Int) then Z else mf Z (-2)) Z') := by
  have hg := gnb_le (mO Z) (mB Z) n
  unfold Mz
  refine z_aload_n rfl rfl ?_
  refine z_iload_n rfl rfl ?_
  refine z_callV1g rfl rfl rfl rfl rfl rfl (m_isBlock hx hn hn2 hw) (fun r2 Z2 J2 q2 => ?_)
  obtain ⟨rfl, rfl, hL, hF⟩ := q2
  show OkZ none 131 5 _ [bI (decide (0 ≤ x ∧ x < (gnb (mO Z) (mB Z) n : Int)))] _ _ _
  refine z_ifb_eq rfl (fun h5 => ?_) (fun h5 => ?_)
  · refine z_aload_n rfl rfl ?_
    refine z_bipush rfl (by decide) ?_
    refine z_callV1 rfl rfl rfl rfl rfl rfl (m_counts (by omega)) ?_
    have hno := of_decide_eq_false h5
    exact z_iret rfl rfl ⟨rfl, by rw [if_neg hno], by rw [if_neg hno]; exact LBf_mf hF⟩
  · have hin := of_decide_eq_true h5
    refine z_aload_n rfl rfl ?_
    refine z_iload_n rfl rfl ?_
    refine z_callV1 rfl rfl rfl rfl rfl rfl (m_chainCostOf hL.1 (by omega) hin (LB_H hn2 hL)) ?_
    rw [cc_gK hL hin.1 hin.2]
    refine z_goto rfl ?_
    exact z_iret rfl rfl ⟨rfl, by rw [if_pos hin], by rw [if_pos hin]; exact hF⟩
