/-! the calls that ask: class and reference answer alike -/
theorem rf_ne {Z : ZW} {x j : Int} {k : Nat} (h : k ≠ 63) : rf Z x k j = Z k j := up_ne h
theorem mf_ne {Z : ZW} {x j : Int} {k : Nat} (h : k ≠ 68) : mf Z x k j = Z k j := up_ne h
theorem INV_bad {Z : ZW} {x : Int} (h : INV Z) (hx : -4 ≤ x ∧ x ≤ -2) : INV (mf (rf Z x) x) := by
  refine INV_err (x := x) h (by omega) (fun k j hk => ?_) (fun j => ?_) (fun j => ?_)
  · unfold Rlv at hk
    rw [mf_ne (by omega), rf_ne (by omega)]
  · rw [mf_ne (by decide)]
  · unfold mf
    by_cases hj : j = -2 - x
    · rw [hj, up_eq, up_eq, rf_ne (by decide)]
    · rw [up_nj hj, up_nj hj, rf_ne (by decide)]
theorem INV_LBf {Y Z' : ZW} (h : INV Y) (hf : LBf Y Z') : INV Z' := INV_of h (fun k j hk => hf k j (by unfold Rlv at hk; omega) (by unfold Rlv at hk; omega))
theorem INV_77 {Y Z' : ZW} (h : INV Y) (hf : ∀ (k : Nat) (j : Int), (k < 70 ∨ 77 < k) → ¬ (k = 64 ∧ j = 9) → Z' k j = Y k j) : INV Z' := INV_of h (fun k j hk => hf k j (by unfold Rlv at hk; omega) (by unfold Rlv at hk; omega))
theorem rf65 (Z : ZW) (x : Int) : rf Z x 65 = Z 65 := funext fun j => rf_ne (by decide)
theorem p_opcode {Z : ZW} {J : Int64} {x : Int} (h : INV Z) (hx : RG x) : PairI 72 113 [.int (I x)] Z J := by
  have h0 := h
  obtain ⟨n, hP, hT, hE, hH, hR⟩ := h
  obtain ⟨m1, m2, m3, m4, m5, m6, m7, m8⟩ := I_P_m hP
  obtain ⟨⟨p1, c4, p3, p4, ⟨g1, g2, g3, g4⟩, ⟨q1, q2, q3, q4⟩, p7⟩, se⟩ := hP
  have hs := s_opcode (Z := Z) (J := J) hx (by omega)
  by_cases hin : 0 ≤ x ∧ x < (n : Int)
  · simp only [if_pos (show 0 ≤ x ∧ x < Z 4 0 by omega)] at hs
    refine d_weaken hs ⟨_, rfl, ?_⟩
    have hm := m_opcode (Z := Z) (J := J) hx (by omega)
    simp only [if_pos (show 0 ≤ x ∧ x ≤ Z 65 0 - 1 by omega)] at hm
    refine d_weaken hm ⟨?_, h0⟩
    rw [(m5 x hin.1 hin.2).1]
    rfl
  · simp only [if_neg (show ¬ (0 ≤ x ∧ x < Z 4 0) by omega)] at hs
    refine d_weaken hs ⟨_, rfl, ?_⟩
    have e0 : rf Z (-2) 65 0 = n := by rw [rf_ne (by decide)]; exact m1
    have hm := m_opcode (Z := rf Z (-2)) (J := J) hx (by omega)
    simp only [if_neg (show ¬ (0 ≤ x ∧ x ≤ rf Z (-2) 65 0 - 1) by omega)] at hm
    exact d_weaken hm ⟨rfl, INV_bad h0 (by omega)⟩
theorem p_blockOf {Z : ZW} {J : Int64} {x : Int} (h : INV Z) (hx : RG x) : PairI 74 127 [.int (I x)] Z J := by
  have h0 := h
  obtain ⟨n, hP, hT, hE, hH, hR⟩ := h
  obtain ⟨m1, m2, m3, m4, m5, m6, m7, m8⟩ := I_P_m hP
  obtain ⟨⟨p1, c4, p3, p4, ⟨g1, g2, g3, g4⟩, ⟨q1, q2, q3, q4⟩, p7⟩, se⟩ := hP
  have eg := gnb_congr m5
  have hg := gnb_le (mO Z) (mB Z) n
  have hs := s_blockOf (Z := Z) (J := J) hx (by omega)
  by_cases hin : 0 ≤ x ∧ x < (n : Int)
  · simp only [if_pos (show 0 ≤ x ∧ x < Z 4 0 by omega)] at hs
    refine d_weaken hs ⟨_, rfl, ?_⟩
    have hm := m_blockOf (Z := Z) (J := J) hx m1 m2 m3
    simp only [if_pos hin] at hm
    refine mz_weaken hm ?_
    rintro r2 Z2 J2 ⟨rfl, rfl, hf⟩
    refine ⟨?_, INV_LBf h0 hf⟩
    rw [g3 x hin.1 hin.2, gblk_congr m5]
  · simp only [if_neg (show ¬ (0 ≤ x ∧ x < Z 4 0) by omega)] at hs
    refine d_weaken hs ⟨_, rfl, ?_⟩
    obtain ⟨k1, k2, k3, k4⟩ := keep64 (rf65 Z (-2))
    have hm := m_blockOf (Z := rf Z (-2)) (J := J) hx (by rw [rf65]; exact m1) m2 (by rw [k1, k2, k3]; exact m3)
    rw [k1, k3] at hm
    simp only [if_neg hin] at hm
    refine mz_weaken hm ?_
    rintro r2 Z2 J2 ⟨rfl, rfl, hf⟩
    exact ⟨rfl, INV_LBf (INV_bad h0 (by omega)) hf⟩
theorem p_successors {Z : ZW} {J : Int64} {x : Int} (h : INV Z) (hx : RG x) : PairI 75 128 [.int (I x)] Z J := by
  have h0 := h
  obtain ⟨n, hP, hT, hE, hH, hR⟩ := h
  obtain ⟨m1, m2, m3, m4, m5, m6, m7, m8⟩ := I_P_m hP
  obtain ⟨⟨p1, c4, p3, p4, ⟨g1, g2, g3, g4⟩, ⟨q1, q2, q3, q4⟩, p7⟩, se⟩ := hP
  have eg := gnb_congr m5
  have hg := gnb_le (mO Z) (mB Z) n
  have hs := s_successors (Z := Z) (J := J) hx (by omega)
  by_cases hin : 0 ≤ x ∧ x < (gnb (mO Z) (mB Z) n : Int)
  · simp only [if_pos (show 0 ≤ x ∧ x < Z 14 0 by omega)] at hs
    refine d_weaken hs ⟨_, rfl, ?_⟩
    have hm := m_successors (Z := Z) (J := J) hx m1 m2 m3
    simp only [if_pos hin] at hm
    refine mz_weaken hm ?_
    rintro r2 Z2 J2 ⟨rfl, rfl, hf⟩
    refine ⟨?_, INV_LBf h0 hf⟩
    rw [(g4 x hin.1 (by omega)).2.2.2.1, (gS_congr m5 hin.1 (by omega)).1]
  · simp only [if_neg (show ¬ (0 ≤ x ∧ x < Z 14 0) by omega)] at hs
    refine d_weaken hs ⟨_, rfl, ?_⟩
    obtain ⟨k1, k2, k3, k4⟩ := keep64 (rf65 Z (-2))
    have hm := m_successors (Z := rf Z (-2)) (J := J) hx (by rw [rf65]; exact m1) m2 (by rw [k1, k2, k3]; exact m3)
    rw [k1, k3] at hm
    simp only [if_neg hin] at hm
    refine mz_weaken hm ?_
    rintro r2 Z2 J2 ⟨rfl, rfl, hf⟩
    exact ⟨rfl, INV_LBf (INV_bad h0 (by omega)) hf⟩
theorem p_blockCost {Z : ZW} {J : Int64} {x : Int} (h : INV Z) (hx : RG x) : PairI 76 129 [.int (I x)] Z J := by
  have h0 := h
  obtain ⟨n, hP, hT, hE, hH, hR⟩ := h
  obtain ⟨m1, m2, m3, m4, m5, m6, m7, m8⟩ := I_P_m hP
  obtain ⟨⟨p1, c4, p3, p4, ⟨g1, g2, g3, g4⟩, ⟨q1, q2, q3, q4⟩, p7⟩, se⟩ := hP
  have eg := gnb_congr m5
  have hg := gnb_le (mO Z) (mB Z) n
  have hs := s_blockCost (Z := Z) (J := J) hx (by omega)
  by_cases hin : 0 ≤ x ∧ x < (gnb (mO Z) (mB Z) n : Int)
  · simp only [if_pos (show 0 ≤ x ∧ x < Z 14 0 by omega)] at hs
    refine d_weaken hs ⟨_, rfl, ?_⟩
    have hm := m_blockCost (Z := Z) (J := J) hx m1 m2 m3
    simp only [if_pos hin] at hm
    refine mz_weaken hm ?_
    rintro r2 Z2 J2 ⟨rfl, rfl, hf⟩
    refine ⟨?_, INV_LBf h0 hf⟩
    rw [(q2 x hin.1 (by omega)).1, gC_congr m5 m8 m7]
  · simp only [if_neg (show ¬ (0 ≤ x ∧ x < Z 14 0) by omega)] at hs
    refine d_weaken hs ⟨_, rfl, ?_⟩
    obtain ⟨k1, k2, k3, k4⟩ := keep64 (rf65 Z (-2))
    have hm := m_blockCost (Z := rf Z (-2)) (J := J) hx (by rw [rf65]; exact m1) m2 (by rw [k1, k2, k3]; exact m3)
    rw [k1, k3, k4] at hm
    simp only [if_neg hin] at hm
    refine mz_weaken hm ?_
    rintro r2 Z2 J2 ⟨rfl, rfl, hf⟩
    exact ⟨rfl, INV_LBf (INV_bad h0 (by omega)) hf⟩
theorem p_chainHead {Z : ZW} {J : Int64} {x : Int} (h : INV Z) (hx : RG x) : PairI 77 130 [.int (I x)] Z J := by
  have h0 := h
  obtain ⟨n, hP, hT, hE, hH, hR⟩ := h
  obtain ⟨m1, m2, m3, m4, m5, m6, m7, m8⟩ := I_P_m hP
  obtain ⟨⟨p1, c4, p3, p4, ⟨g1, g2, g3, g4⟩, ⟨q1, q2, q3, q4⟩, p7⟩, se⟩ := hP
  have eg := gnb_congr m5
  have hg := gnb_le (mO Z) (mB Z) n
  have hs := s_chainHead (Z := Z) (J := J) hx (by omega)
  by_cases hin : 0 ≤ x ∧ x < (gnb (mO Z) (mB Z) n : Int)
  · simp only [if_pos (show 0 ≤ x ∧ x < Z 14 0 by omega)] at hs
    refine d_weaken hs ⟨_, rfl, ?_⟩
    have hm := m_chainHead (Z := Z) (J := J) hx m1 m2 m3
    simp only [if_pos hin] at hm
    refine mz_weaken hm ?_
    rintro r2 Z2 J2 ⟨rfl, rfl, hf⟩
    refine ⟨?_, INV_LBf h0 hf⟩
    rw [(g4 x hin.1 (by omega)).2.2.2.2.1, gH_congr m5]
  · simp only [if_neg (show ¬ (0 ≤ x ∧ x < Z 14 0) by omega)] at hs
    refine d_weaken hs ⟨_, rfl, ?_⟩
    obtain ⟨k1, k2, k3, k4⟩ := keep64 (rf65 Z (-2))
    have hm := m_chainHead (Z := rf Z (-2)) (J := J) hx (by rw [rf65]; exact m1) m2 (by rw [k1, k2, k3]; exact m3)
    rw [k1, k3] at hm
    simp only [if_neg hin] at hm
    refine mz_weaken hm ?_
    rintro r2 Z2 J2 ⟨rfl, rfl, hf⟩
    exact ⟨rfl, INV_LBf (INV_bad h0 (by omega)) hf⟩
theorem p_chainCost {Z : ZW} {J : Int64} {x : Int} (h : INV Z) (hx : RG x) : PairI 78 131 [.int (I x)] Z J := by
  have h0 := h
  obtain ⟨n, hP, hT, hE, hH, hR⟩ := h
  obtain ⟨m1, m2, m3, m4, m5, m6, m7, m8⟩ := I_P_m hP
  obtain ⟨⟨p1, c4, p3, p4, ⟨g1, g2, g3, g4⟩, ⟨q1, q2, q3, q4⟩, p7⟩, se⟩ := hP
  have eg := gnb_congr m5
  have hg := gnb_le (mO Z) (mB Z) n
  have hs := s_chainCost (Z := Z) (J := J) hx (by omega)
  by_cases hin : 0 ≤ x ∧ x < (gnb (mO Z) (mB Z) n : Int)
  · simp only [if_pos (show 0 ≤ x ∧ x < Z 14 0 by omega)] at hs
    refine d_weaken hs ⟨_, rfl, ?_⟩
    have hm := m_chainCost (Z := Z) (J := J) hx m1 m2 m3
    simp only [if_pos hin] at hm
    refine mz_weaken hm ?_
    rintro r2 Z2 J2 ⟨rfl, rfl, hf⟩
    refine ⟨?_, INV_LBf h0 hf⟩
    rw [(q2 x hin.1 (by omega)).2, gK_congr m5 m8 m7, gH_congr m5]
  · simp only [if_neg (show ¬ (0 ≤ x ∧ x < Z 14 0) by omega)] at hs
    refine d_weaken hs ⟨_, rfl, ?_⟩
    obtain ⟨k1, k2, k3, k4⟩ := keep64 (rf65 Z (-2))
    have hm := m_chainCost (Z := rf Z (-2)) (J := J) hx (by rw [rf65]; exact m1) m2 (by rw [k1, k2, k3]; exact m3)
    rw [k1, k3, k4] at hm
    simp only [if_neg hin] at hm
    refine mz_weaken hm ?_
    rintro r2 Z2 J2 ⟨rfl, rfl, hf⟩
    exact ⟨rfl, INV_LBf (INV_bad h0 (by omega)) hf⟩
theorem p_blocks {Z : ZW} {J : Int64} (h : INV Z) : PairI 73 126 [] Z J := by
  have h0 := h
  obtain ⟨n, hP, hT, hE, hH, hR⟩ := h
  obtain ⟨m1, m2, m3, m4, m5, m6, m7, m8⟩ := I_P_m hP
  obtain ⟨⟨p1, c4, p3, p4, ⟨g1, g2, g3, g4⟩, ⟨q1, q2, q3, q4⟩, p7⟩, se⟩ := hP
  refine d_weaken (s_blocks (Z := Z) (J := J)) ⟨_, rfl, ?_⟩
  refine mz_weaken (m_blocks (Z := Z) (J := J) m1 m2 m3) ?_
  rintro r2 Z2 J2 ⟨rfl, rfl, hf⟩
  refine ⟨?_, INV_LBf h0 hf⟩
  rw [g1, gnb_congr m5]
theorem p_reachable {Z : ZW} {J : Int64} (h : INV Z) : PairI 79 132 [] Z J := by
  have h0 := h
  obtain ⟨n, hP, hT, hE, hH, hR⟩ := h
  obtain ⟨m1, m2, m3, m4, m5, m6, m7, m8⟩ := I_P_m hP
  obtain ⟨⟨p1, c4, p3, p4, ⟨g1, g2, g3, g4⟩, ⟨q1, q2, q3, q4⟩, p7⟩, se⟩ := hP
  refine d_weaken (s_reachableBlocks (Z := Z) (J := J)) ⟨_, rfl, ?_⟩
  refine mz_weaken (m_reachable (Z := Z) (J := J) m1 m2 m3) ?_
  rintro r2 Z2 J2 ⟨rfl, rfl, hf⟩
  refine ⟨?_, INV_LBf h0 hf⟩
  rw [g2, gR_congr m5]
theorem p_greatest {Z : ZW} {J : Int64} (h : INV Z) : PairI 80 135 [] Z J := by
  have h0 := h
  obtain ⟨n, hP, hT, hE, hH, hR⟩ := h
  obtain ⟨m1, m2, m3, m4, m5, m6, m7, m8⟩ := I_P_m hP
  obtain ⟨⟨p1, c4, p3, p4, ⟨g1, g2, g3, g4⟩, ⟨q1, q2, q3, q4⟩, p7⟩, se⟩ := hP
  refine d_weaken (s_greatestCost (Z := Z) (J := J)) ⟨_, rfl, ?_⟩
  refine mz_weaken (m_greatestCost (Z := Z) (J := J) m1 m2 m3 m4 (bw_great m2 (OP_of m3) m4)) ?_
  rintro r2 Z2 J2 ⟨rfl, rfl, hf⟩
  refine ⟨?_, INV_77 h0 hf⟩
  rw [q3, gG_congr m5 m8 m7]
  rfl
theorem p_least {Z : ZW} {J : Int64} (h : INV Z) : PairI 81 136 [] Z J := by
  have h0 := h
  obtain ⟨n, hP, hT, hE, hH, hR⟩ := h
  obtain ⟨m1, m2, m3, m4, m5, m6, m7, m8⟩ := I_P_m hP
  obtain ⟨⟨p1, c4, p3, p4, ⟨g1, g2, g3, g4⟩, ⟨q1, q2, q3, q4⟩, p7⟩, se⟩ := hP
  refine d_weaken (s_leastCost (Z := Z) (J := J)) ⟨_, rfl, ?_⟩
  refine mz_weaken (m_leastCost (Z := Z) (J := J) m1 m2 m3 m4 (bw_least m2 (OP_of m3) m4)) ?_
  rintro r2 Z2 J2 ⟨rfl, rfl, hf⟩
  refine ⟨?_, INV_77 h0 hf⟩
  rw [q4, gL_congr m5 m8 m7]
  rfl
theorem p_steps {Z : ZW} {J : Int64} (h : INV Z) : PairI 83 140 [] Z J := by
  have h0 := h
  obtain ⟨n, hP, hT, hE, hH, hR⟩ := h
  refine d_weaken (s_steps (Z := Z) (J := J)) ⟨_, rfl, d_weaken (m_steps (Z := Z) (J := J)) ⟨?_, h0⟩⟩
  rw [hR.2.1]
theorem p_remaining {Z : ZW} {J : Int64} (h : INV Z) : PairI 84 141 [] Z J := by
  have h0 := h
  obtain ⟨n, hP, hT, hE, hH, hR⟩ := h
  refine d_weaken (s_remaining (Z := Z) (J := J)) ⟨_, rfl, d_weaken (m_remaining (Z := Z) (J := J)) ⟨?_, h0⟩⟩
  rw [hR.2.2.1]
theorem p_charges {Z : ZW} {J : Int64} (h : INV Z) : PairI 85 142 [] Z J := by
  have h0 := h
  obtain ⟨n, hP, hT, hE, hH, hR⟩ := h
  refine d_weaken (s_charges (Z := Z) (J := J)) ⟨_, rfl, d_weaken (m_charges (Z := Z) (J := J)) ⟨?_, h0⟩⟩
  rw [hR.2.2.2.1]
theorem p_stoppedAt {Z : ZW} {J : Int64} (h : INV Z) : PairI 87 144 [] Z J := by
  have h0 := h
  obtain ⟨n, hP, hT, hE, hH, hR⟩ := h
  refine d_weaken (s_stoppedAt (Z := Z) (J := J)) ⟨_, rfl, d_weaken (m_stoppedAt (Z := Z) (J := J)) ⟨?_, h0⟩⟩
  rw [hR.2.2.2.2.1]
theorem p_chargeRate {Z : ZW} {J : Int64} (h : INV Z) : PairI 89 147 [] Z J := by
  have h0 := h
  obtain ⟨n, hP, hT, hE, hH, hR⟩ := h
  obtain ⟨r1, r2, r3, r4, r5, r6, r7⟩ := hR
  refine d_weaken (s_chargeRate (Z := Z) (J := J) r7) ⟨_, rfl, d_weaken (m_chargeRate (Z := Z) (J := J) (by rw [r2, r4]; exact r7)) ⟨?_, h0⟩⟩
  rw [r2, r4]
theorem p_register {Z : ZW} {J : Int64} {x : Int} (h : INV Z) (hx : RG x) : PairI 86 143 [.int (I x)] Z J := by
  have h0 := h
  obtain ⟨n, hP, hT, hE, hH, hR⟩ := h
  obtain ⟨r1, r2, r3, r4, r5, r6, r7⟩ := hR
  refine d_weaken (s_register (Z := Z) (J := J) hx) ⟨_, rfl, d_weaken (m_register (Z := Z) (J := J) hx) ⟨?_, h0⟩⟩
  by_cases hin : 0 ≤ x ∧ x < 4
  · rw [if_pos hin, if_pos (by omega), r6 x hin.1 hin.2]
  · rw [if_neg hin, if_neg (by omega)]
theorem p_errorCount {Z : ZW} {J : Int64} {x : Int} (h : INV Z) (hx : RG x) : PairI 92 149 [.int (I x)] Z J := by
  have h0 := h
  obtain ⟨n, hP, hT, hE, hH, hR⟩ := h
  have hs := s_errorCount (Z := Z) (J := J) hx
  by_cases hin : -4 ≤ x ∧ x ≤ -2
  · simp only [if_pos hin] at hs
    have hm := m_errorCount (Z := Z) (J := J) hx
    simp only [if_pos hin] at hm
    refine d_weaken hs ⟨_, rfl, d_weaken hm ⟨?_, h0⟩⟩
    rw [hE (-2 - x) (by omega) (by omega)]
  · simp only [if_neg hin] at hs
    have hm := m_errorCount (Z := rf Z (-2)) (J := J) hx
    simp only [if_neg hin] at hm
    exact d_weaken hs ⟨_, rfl, d_weaken hm ⟨rfl, INV_bad h0 (by omega)⟩⟩
/-- class: the digest out of the picture -/
theorem s_digest2 {Z : ZW} {J : Int64} {n : Nat} (h : CP Z n) : D 97 [.ref 0] Z J (some (.long (mx (ML (DGf (mx (mxs (Z 63) 3 h0) (Z 1 0)) (Z 8) (Z 5) (Z 7) n) (Z 59 0) (Z 59 1) (Z 59 2) (Z 59 3) (Z 60) (Z 59 4)) (Z 32 0)))) Z J := by
  obtain ⟨p1, c4, p3, p4, ⟨g1, g2, g3, g4⟩, ⟨q1, q2, q3, q4⟩, p7⟩ := h
  have hg := gnb_le (Z 5) (Z 7) n
  have hs := s_digest (Z := Z) (J := J) c4 p1 g1 (by omega)
  have em : ∀ y, mxU (MB (Z 19) (Z 25) (Z 20) (Z 26)) (gnb (Z 5) (Z 7) n) 0 y = mxU (MB (gS (Z 5) (Z 7) n) (gC (Z 8) (Z 5) (Z 7) n) (gH (Z 5) (Z 7) n) (fun b => gK (Z 8) (Z 5) (Z 7) n (gH (Z 5) (Z 7) n b))) (gnb (Z 5) (Z 7) n) 0 y := fun y =>
    mxU_congr _ 0 y (fun j z j0 j1 => by
      unfold MB
      dsimp only
      rw [(g4 j j0 (by omega)).2.2.2.1, (g4 j j0 (by omega)).2.2.2.2.1, (q2 j j0 (by omega)).1, (q2 j j0 (by omega)).2])
  have e : ∀ y, MF y (gnb (Z 5) (Z 7) n) (Z 19) (Z 25) (Z 20) (Z 26) (Z 14 1) (Z 24 0) (Z 24 1) = MF y (gnb (Z 5) (Z 7) n) (gS (Z 5) (Z 7) n) (gC (Z 8) (Z 5) (Z 7) n) (gH (Z 5) (Z 7) n) (fun b => gK (Z 8) (Z 5) (Z 7) n (gH (Z 5) (Z 7) n b)) (gR (Z 5) (Z 7) n) (gG (Z 8) (Z 5) (Z 7) n) (gL (Z 8) (Z 5) (Z 7) n) := fun y => by
    unfold MF
    rw [g2, q3, q4, em]
  rw [e] at hs
  exact hs
theorem p_digest {Z : ZW} {J : Int64} (h : INV Z) : PairL 97 153 [] Z J := by
  have h00 := h
  obtain ⟨n, hP, hT, hE, hH, hR⟩ := h
  obtain ⟨m1, m2, m3, m4, m5, m6, m7, m8⟩ := I_P_m hP
  obtain ⟨⟨p1, c4, p3, p4, ⟨g1, g2, g3, g4⟩, ⟨q1, q2, q3, q4⟩, p7⟩, se⟩ := hP
  obtain ⟨r1, r2, r3, r4, r5, r6, r7⟩ := hR
  have hcp : CP Z n := ⟨p1, c4, p3, p4, ⟨g1, g2, g3, g4⟩, ⟨q1, q2, q3, q4⟩, p7⟩
  refine d_weaken (s_digest2 (Z := Z) (J := J) hcp) ⟨_, rfl, ?_⟩
  refine mz_weaken (m_digest (Z := Z) (J := J) m1 m2 m3 m4) ?_
  rintro x2 Z2 J2 ⟨rfl, hf⟩
  refine ⟨?_, INV_77 h00 hf⟩
  rw [DGf_congr m5 m8 m7, r1, r2, r3, r4, r5, hT.2.1, hH.2.1, mxs_congr (f := Z 68) (f' := Z 63) (n := 3) hE]
  unfold ML
  rw [mxs_congr (f := Z 78) (f' := Z 60) (n := 4) r6]
